section
-- ===== PART A: goes FIRST, ahead of the names: the tables' words, and 'selects' of the private methods out of them =====
/-- a private method of a class that the tables say can be made, by its rows of tables_1 -/
def lw_okq (q : MethodName × Nat) : Prop := (q.1.cls ≠ "java/lang/invoke/MethodHandle" ∧ q.1.cls ≠ "java/lang/invoke/VarHandle") ∧ Cond.instantiable q.1.cls q.2 ∈ tables_1 ∧ Cond.privateMethod q.1 ∈ tables_1 ∧ Cond.instanceMethod q.1 ∈ tables_1
theorem lw_p0 : lw_okq (⟨"OmegaDesk", "automatonAt", "(I)LOmegaDesk$Automaton;"⟩, 4) := ⟨⟨by decide +kernel, by decide +kernel⟩, List.mem_of_getElem? (i := 18) (by decide +kernel), List.mem_of_getElem? (i := 144) (by decide +kernel), List.mem_of_getElem? (i := 145) (by decide +kernel)⟩
theorem lw_p1 : lw_okq (⟨"java/lang/Throwable", "fillInStackTrace", "(I)Ljava/lang/Throwable;"⟩, 6) := ⟨⟨by decide +kernel, by decide +kernel⟩, List.mem_of_getElem? (i := 186) (by decide +kernel), List.mem_of_getElem? (i := 184) (by decide +kernel), List.mem_of_getElem? (i := 185) (by decide +kernel)⟩
theorem lw_p2 : lw_okq (⟨"OmegaDesk", "automatonWithPlaces", "(IIII)LOmegaDesk$Automaton;"⟩, 4) := ⟨⟨by decide +kernel, by decide +kernel⟩, List.mem_of_getElem? (i := 18) (by decide +kernel), List.mem_of_getElem? (i := 243) (by decide +kernel), List.mem_of_getElem? (i := 244) (by decide +kernel)⟩
theorem lw_p3 : lw_okq (⟨"OmegaDesk$Automaton", "joinAll", "(III)V"⟩, 3) := ⟨⟨by decide +kernel, by decide +kernel⟩, List.mem_of_getElem? (i := 27) (by decide +kernel), List.mem_of_getElem? (i := 297) (by decide +kernel), List.mem_of_getElem? (i := 298) (by decide +kernel)⟩
theorem lw_p4 : lw_okq (⟨"OmegaDesk$Refuter", "reset", "()V"⟩, 7) := ⟨⟨by decide +kernel, by decide +kernel⟩, List.mem_of_getElem? (i := 48) (by decide +kernel), List.mem_of_getElem? (i := 405) (by decide +kernel), List.mem_of_getElem? (i := 406) (by decide +kernel)⟩
theorem lw_p5 : lw_okq (⟨"OmegaDesk$Refuter", "findMeetings", "(LOmegaDesk$Automaton;LOmegaDesk$Automaton;)V"⟩, 7) := ⟨⟨by decide +kernel, by decide +kernel⟩, List.mem_of_getElem? (i := 48) (by decide +kernel), List.mem_of_getElem? (i := 410) (by decide +kernel), List.mem_of_getElem? (i := 411) (by decide +kernel)⟩
theorem lw_p6 : lw_okq (⟨"OmegaDesk$Refuter", "spreadMeeting", "(LOmegaDesk$Automaton;LOmegaDesk$Automaton;II)Z"⟩, 7) := ⟨⟨by decide +kernel, by decide +kernel⟩, List.mem_of_getElem? (i := 48) (by decide +kernel), List.mem_of_getElem? (i := 414) (by decide +kernel), List.mem_of_getElem? (i := 415) (by decide +kernel)⟩
theorem lw_p7 : lw_okq (⟨"OmegaDesk$Refuter", "offer", "(II)I"⟩, 7) := ⟨⟨by decide +kernel, by decide +kernel⟩, List.mem_of_getElem? (i := 48) (by decide +kernel), List.mem_of_getElem? (i := 420) (by decide +kernel), List.mem_of_getElem? (i := 421) (by decide +kernel)⟩
theorem lw_p8 : lw_okq (⟨"OmegaDesk$Refuter", "slotOf", "(I)I"⟩, 7) := ⟨⟨by decide +kernel, by decide +kernel⟩, List.mem_of_getElem? (i := 48) (by decide +kernel), List.mem_of_getElem? (i := 424) (by decide +kernel), List.mem_of_getElem? (i := 425) (by decide +kernel)⟩
theorem lw_p9 : lw_okq (⟨"OmegaDesk$Refuter", "enqueue", "(I)V"⟩, 7) := ⟨⟨by decide +kernel, by decide +kernel⟩, List.mem_of_getElem? (i := 48) (by decide +kernel), List.mem_of_getElem? (i := 429) (by decide +kernel), List.mem_of_getElem? (i := 430) (by decide +kernel)⟩
theorem lw_p10 : lw_okq (⟨"OmegaDesk$Refuter", "nextQueued", "()I"⟩, 7) := ⟨⟨by decide +kernel, by decide +kernel⟩, List.mem_of_getElem? (i := 48) (by decide +kernel), List.mem_of_getElem? (i := 434) (by decide +kernel), List.mem_of_getElem? (i := 435) (by decide +kernel)⟩
theorem lw_p11 : lw_okq (⟨"OmegaDesk$Refuter", "refutesWith", "(II)Z"⟩, 7) := ⟨⟨by decide +kernel, by decide +kernel⟩, List.mem_of_getElem? (i := 48) (by decide +kernel), List.mem_of_getElem? (i := 439) (by decide +kernel), List.mem_of_getElem? (i := 440) (by decide +kernel)⟩
theorem lw_p12 : lw_okq (⟨"OmegaDesk$LassoFinder", "searchSplit", "(II)V"⟩, 7) := ⟨⟨by decide +kernel, by decide +kernel⟩, List.mem_of_getElem? (i := 76) (by decide +kernel), List.mem_of_getElem? (i := 464) (by decide +kernel), List.mem_of_getElem? (i := 465) (by decide +kernel)⟩
theorem lw_p13 : lw_okq (⟨"OmegaDeskModel", "add", "(IZ)V"⟩, 12) := ⟨⟨by decide +kernel, by decide +kernel⟩, List.mem_of_getElem? (i := 520) (by decide +kernel), List.mem_of_getElem? (i := 575) (by decide +kernel), List.mem_of_getElem? (i := 576) (by decide +kernel)⟩
theorem lw_p14 : lw_okq (⟨"OmegaDeskModel", "isEdge", "(IIII)Z"⟩, 12) := ⟨⟨by decide +kernel, by decide +kernel⟩, List.mem_of_getElem? (i := 520) (by decide +kernel), List.mem_of_getElem? (i := 583) (by decide +kernel), List.mem_of_getElem? (i := 584) (by decide +kernel)⟩
theorem lw_p15 : lw_okq (⟨"OmegaDeskModel", "append", "(II)V"⟩, 12) := ⟨⟨by decide +kernel, by decide +kernel⟩, List.mem_of_getElem? (i := 520) (by decide +kernel), List.mem_of_getElem? (i := 595) (by decide +kernel), List.mem_of_getElem? (i := 596) (by decide +kernel)⟩
def lw_privs_1 : List (MethodName × Nat) := [(⟨"OmegaDesk", "automatonAt", "(I)LOmegaDesk$Automaton;"⟩, 4), (⟨"java/lang/Throwable", "fillInStackTrace", "(I)Ljava/lang/Throwable;"⟩, 6), (⟨"OmegaDesk", "automatonWithPlaces", "(IIII)LOmegaDesk$Automaton;"⟩, 4), (⟨"OmegaDesk$Automaton", "joinAll", "(III)V"⟩, 3), (⟨"OmegaDesk$Refuter", "reset", "()V"⟩, 7), (⟨"OmegaDesk$Refuter", "findMeetings", "(LOmegaDesk$Automaton;LOmegaDesk$Automaton;)V"⟩, 7), (⟨"OmegaDesk$Refuter", "spreadMeeting", "(LOmegaDesk$Automaton;LOmegaDesk$Automaton;II)Z"⟩, 7), (⟨"OmegaDesk$Refuter", "offer", "(II)I"⟩, 7), (⟨"OmegaDesk$Refuter", "slotOf", "(I)I"⟩, 7), (⟨"OmegaDesk$Refuter", "enqueue", "(I)V"⟩, 7), (⟨"OmegaDesk$Refuter", "nextQueued", "()I"⟩, 7), (⟨"OmegaDesk$Refuter", "refutesWith", "(II)Z"⟩, 7), (⟨"OmegaDesk$LassoFinder", "searchSplit", "(II)V"⟩, 7), (⟨"OmegaDeskModel", "add", "(IZ)V"⟩, 12), (⟨"OmegaDeskModel", "isEdge", "(IIII)Z"⟩, 12), (⟨"OmegaDeskModel", "append", "(II)V"⟩, 12)]
theorem lw_r1 : ∀ q ∈ lw_privs_1, lw_okq q := List.forall_mem_cons.mpr ⟨lw_p0, List.forall_mem_cons.mpr ⟨lw_p1, List.forall_mem_cons.mpr ⟨lw_p2, List.forall_mem_cons.mpr ⟨lw_p3, List.forall_mem_cons.mpr ⟨lw_p4, List.forall_mem_cons.mpr ⟨lw_p5, List.forall_mem_cons.mpr ⟨lw_p6, List.forall_mem_cons.mpr ⟨lw_p7, List.forall_mem_cons.mpr ⟨lw_p8, List.forall_mem_cons.mpr ⟨lw_p9, List.forall_mem_cons.mpr ⟨lw_p10, List.forall_mem_cons.mpr ⟨lw_p11, List.forall_mem_cons.mpr ⟨lw_p12, List.forall_mem_cons.mpr ⟨lw_p13, List.forall_mem_cons.mpr ⟨lw_p14, List.forall_mem_cons.mpr ⟨lw_p15, fun _ h => absurd h List.not_mem_nil⟩⟩⟩⟩⟩⟩⟩⟩⟩⟩⟩⟩⟩⟩⟩⟩
theorem lw_p16 : lw_okq (⟨"OmegaDeskModel", "living", "(I)I"⟩, 12) := ⟨⟨by decide +kernel, by decide +kernel⟩, List.mem_of_getElem? (i := 520) (by decide +kernel), List.mem_of_getElem? (i := 603) (by decide +kernel), List.mem_of_getElem? (i := 604) (by decide +kernel)⟩
theorem lw_p17 : lw_okq (⟨"OmegaDeskModel", "alive", "(II)Z"⟩, 12) := ⟨⟨by decide +kernel, by decide +kernel⟩, List.mem_of_getElem? (i := 520) (by decide +kernel), List.mem_of_getElem? (i := 607) (by decide +kernel), List.mem_of_getElem? (i := 608) (by decide +kernel)⟩
theorem lw_p18 : lw_okq (⟨"OmegaDeskModel", "ahead", "(II)I"⟩, 12) := ⟨⟨by decide +kernel, by decide +kernel⟩, List.mem_of_getElem? (i := 520) (by decide +kernel), List.mem_of_getElem? (i := 611) (by decide +kernel), List.mem_of_getElem? (i := 612) (by decide +kernel)⟩
theorem lw_p19 : lw_okq (⟨"OmegaDeskModel", "lasso", "(IIIII)Z"⟩, 12) := ⟨⟨by decide +kernel, by decide +kernel⟩, List.mem_of_getElem? (i := 520) (by decide +kernel), List.mem_of_getElem? (i := 626) (by decide +kernel), List.mem_of_getElem? (i := 627) (by decide +kernel)⟩
theorem lw_p20 : lw_okq (⟨"OmegaDeskModel", "allBehind", "(IJIIII)J"⟩, 12) := ⟨⟨by decide +kernel, by decide +kernel⟩, List.mem_of_getElem? (i := 520) (by decide +kernel), List.mem_of_getElem? (i := 630) (by decide +kernel), List.mem_of_getElem? (i := 631) (by decide +kernel)⟩
theorem lw_p21 : lw_okq (⟨"OmegaDeskModel", "behind", "(IJIIII)J"⟩, 12) := ⟨⟨by decide +kernel, by decide +kernel⟩, List.mem_of_getElem? (i := 520) (by decide +kernel), List.mem_of_getElem? (i := 634) (by decide +kernel), List.mem_of_getElem? (i := 635) (by decide +kernel)⟩
theorem lw_p22 : lw_okq (⟨"OmegaDeskModel", "differs", "(II)Z"⟩, 12) := ⟨⟨by decide +kernel, by decide +kernel⟩, List.mem_of_getElem? (i := 520) (by decide +kernel), List.mem_of_getElem? (i := 646) (by decide +kernel), List.mem_of_getElem? (i := 647) (by decide +kernel)⟩
theorem lw_p23 : lw_okq (⟨"OmegaDeskModel", "begin", "(II)V"⟩, 12) := ⟨⟨by decide +kernel, by decide +kernel⟩, List.mem_of_getElem? (i := 520) (by decide +kernel), List.mem_of_getElem? (i := 650) (by decide +kernel), List.mem_of_getElem? (i := 651) (by decide +kernel)⟩
theorem lw_p24 : lw_okq (⟨"OmegaDeskModel", "goOn", "(IIII)Z"⟩, 12) := ⟨⟨by decide +kernel, by decide +kernel⟩, List.mem_of_getElem? (i := 520) (by decide +kernel), List.mem_of_getElem? (i := 654) (by decide +kernel), List.mem_of_getElem? (i := 655) (by decide +kernel)⟩
theorem lw_p25 : lw_okq (⟨"OmegaDeskModel", "gather", "(III)V"⟩, 12) := ⟨⟨by decide +kernel, by decide +kernel⟩, List.mem_of_getElem? (i := 520) (by decide +kernel), List.mem_of_getElem? (i := 658) (by decide +kernel), List.mem_of_getElem? (i := 659) (by decide +kernel)⟩
theorem lw_p26 : lw_okq (⟨"OmegaDeskModel", "lead", "(III)V"⟩, 12) := ⟨⟨by decide +kernel, by decide +kernel⟩, List.mem_of_getElem? (i := 520) (by decide +kernel), List.mem_of_getElem? (i := 668) (by decide +kernel), List.mem_of_getElem? (i := 669) (by decide +kernel)⟩
theorem lw_p27 : lw_okq (⟨"OmegaDeskModel", "spread", "(I)V"⟩, 12) := ⟨⟨by decide +kernel, by decide +kernel⟩, List.mem_of_getElem? (i := 520) (by decide +kernel), List.mem_of_getElem? (i := 672) (by decide +kernel), List.mem_of_getElem? (i := 673) (by decide +kernel)⟩
theorem lw_p28 : lw_okq (⟨"OmegaDeskModel", "longer", "(II)I"⟩, 12) := ⟨⟨by decide +kernel, by decide +kernel⟩, List.mem_of_getElem? (i := 520) (by decide +kernel), List.mem_of_getElem? (i := 676) (by decide +kernel), List.mem_of_getElem? (i := 677) (by decide +kernel)⟩
theorem lw_p29 : lw_okq (⟨"OmegaDeskModel", "taken", "(II)I"⟩, 12) := ⟨⟨by decide +kernel, by decide +kernel⟩, List.mem_of_getElem? (i := 520) (by decide +kernel), List.mem_of_getElem? (i := 684) (by decide +kernel), List.mem_of_getElem? (i := 685) (by decide +kernel)⟩
theorem lw_p30 : lw_okq (⟨"OmegaDeskModel", "look", "(III)Z"⟩, 12) := ⟨⟨by decide +kernel, by decide +kernel⟩, List.mem_of_getElem? (i := 520) (by decide +kernel), List.mem_of_getElem? (i := 691) (by decide +kernel), List.mem_of_getElem? (i := 692) (by decide +kernel)⟩
theorem lw_p31 : lw_okq (⟨"OmegaDeskModel", "fail", "(I)I"⟩, 12) := ⟨⟨by decide +kernel, by decide +kernel⟩, List.mem_of_getElem? (i := 520) (by decide +kernel), List.mem_of_getElem? (i := 703) (by decide +kernel), List.mem_of_getElem? (i := 704) (by decide +kernel)⟩
def lw_privs_2 : List (MethodName × Nat) := [(⟨"OmegaDeskModel", "living", "(I)I"⟩, 12), (⟨"OmegaDeskModel", "alive", "(II)Z"⟩, 12), (⟨"OmegaDeskModel", "ahead", "(II)I"⟩, 12), (⟨"OmegaDeskModel", "lasso", "(IIIII)Z"⟩, 12), (⟨"OmegaDeskModel", "allBehind", "(IJIIII)J"⟩, 12), (⟨"OmegaDeskModel", "behind", "(IJIIII)J"⟩, 12), (⟨"OmegaDeskModel", "differs", "(II)Z"⟩, 12), (⟨"OmegaDeskModel", "begin", "(II)V"⟩, 12), (⟨"OmegaDeskModel", "goOn", "(IIII)Z"⟩, 12), (⟨"OmegaDeskModel", "gather", "(III)V"⟩, 12), (⟨"OmegaDeskModel", "lead", "(III)V"⟩, 12), (⟨"OmegaDeskModel", "spread", "(I)V"⟩, 12), (⟨"OmegaDeskModel", "longer", "(II)I"⟩, 12), (⟨"OmegaDeskModel", "taken", "(II)I"⟩, 12), (⟨"OmegaDeskModel", "look", "(III)Z"⟩, 12), (⟨"OmegaDeskModel", "fail", "(I)I"⟩, 12)]
theorem lw_r2 : ∀ q ∈ lw_privs_2, lw_okq q := List.forall_mem_cons.mpr ⟨lw_p16, List.forall_mem_cons.mpr ⟨lw_p17, List.forall_mem_cons.mpr ⟨lw_p18, List.forall_mem_cons.mpr ⟨lw_p19, List.forall_mem_cons.mpr ⟨lw_p20, List.forall_mem_cons.mpr ⟨lw_p21, List.forall_mem_cons.mpr ⟨lw_p22, List.forall_mem_cons.mpr ⟨lw_p23, List.forall_mem_cons.mpr ⟨lw_p24, List.forall_mem_cons.mpr ⟨lw_p25, List.forall_mem_cons.mpr ⟨lw_p26, List.forall_mem_cons.mpr ⟨lw_p27, List.forall_mem_cons.mpr ⟨lw_p28, List.forall_mem_cons.mpr ⟨lw_p29, List.forall_mem_cons.mpr ⟨lw_p30, List.forall_mem_cons.mpr ⟨lw_p31, fun _ h => absurd h List.not_mem_nil⟩⟩⟩⟩⟩⟩⟩⟩⟩⟩⟩⟩⟩⟩⟩⟩
def lw_privs : List (MethodName × Nat) := lw_privs_1 ++ (lw_privs_2)
def lw_tbl : List Cond := k2_sels lw_privs ++ tables_1
theorem lw_privs_ok : ∀ q ∈ lw_privs, lw_okq q := by
  show ∀ q ∈ lw_privs_1 ++ (lw_privs_2), lw_okq q
  exact List.forall_mem_append.mpr ⟨lw_r1, lw_r2⟩
end
section
def R_A : String := "OmegaDesk$Automaton"
def F_A : u_T := fun k => match k with
  | 0 => ("OmegaDesk$Automaton", "size", "I", false)
  | 1 => ("OmegaDesk$Automaton", "goodStates", "I", false)
  | _ => ("OmegaDesk$Automaton", "followers", "[I", true)
def tf_A : Nat → FieldType := fun k => match k with
  | 0 => .int
  | 1 => .int
  | _ => .array .int
def R_D : String := "OmegaDesk"
def F_D : u_T := fun k => match k with
  | 0 => ("OmegaDesk", "automata", "[LOmegaDesk$Automaton;", true)
  | 1 => ("OmegaDesk", "spare", "LOmegaDesk$Automaton;", true)
  | 2 => ("OmegaDesk", "refuter", "LOmegaDesk$Refuter;", true)
  | _ => ("OmegaDesk", "finder", "LOmegaDesk$LassoFinder;", true)
def tf_D : Nat → FieldType := fun k => match k with
  | 0 => .array (.object "OmegaDesk$Automaton")
  | 1 => .object "OmegaDesk$Automaton"
  | 2 => .object "OmegaDesk$Refuter"
  | _ => .object "OmegaDesk$LassoFinder"
def R_R : String := "OmegaDesk$Refuter"
def F_R : u_T := fun k => match k with
  | 0 => ("OmegaDesk$Refuter", "keys", "[I", true)
  | 1 => ("OmegaDesk$Refuter", "seenWays", "[I", true)
  | 2 => ("OmegaDesk$Refuter", "freshWays", "[I", true)
  | 3 => ("OmegaDesk$Refuter", "queue", "[I", true)
  | 4 => ("OmegaDesk$Refuter", "queueStart", "I", false)
  | 5 => ("OmegaDesk$Refuter", "queued", "I", false)
  | _ => ("OmegaDesk$Refuter", "meetings", "[I", true)
def tf_R : Nat → FieldType := fun k => match k with
  | 0 => .array .int
  | 1 => .array .int
  | 2 => .array .int
  | 3 => .array .int
  | 4 => .int
  | 5 => .int
  | _ => .array .int
def R_F : String := "OmegaDesk$LassoFinder"
def F_F : u_T := fun k => match k with
  | 0 => ("OmegaDesk$LassoFinder", "innerWords", "LOmegaDesk$WordTable;", true)
  | 1 => ("OmegaDesk$LassoFinder", "outerWords", "LOmegaDesk$WordTable;", true)
  | 2 => ("OmegaDesk$LassoFinder", "found", "Z", false)
  | 3 => ("OmegaDesk$LassoFinder", "headLength", "I", false)
  | 4 => ("OmegaDesk$LassoFinder", "head", "I", false)
  | 5 => ("OmegaDesk$LassoFinder", "tailLength", "I", false)
  | _ => ("OmegaDesk$LassoFinder", "tail", "I", false)
def tf_F : Nat → FieldType := fun k => match k with
  | 0 => .object "OmegaDesk$WordTable"
  | 1 => .object "OmegaDesk$WordTable"
  | 2 => .boolean
  | 3 => .int
  | 4 => .int
  | 5 => .int
  | _ => .int
def R_T : String := "OmegaDesk$WordTable"
def F_T : u_T := fun k => match k with
  | 0 => ("OmegaDesk$WordTable", "passages", "[I", true)
  | _ => ("OmegaDesk$WordTable", "takenRepeated", "[I", true)
def tf_T : Nat → FieldType := fun k => match k with
  | 0 => .array .int
  | _ => .array .int
def R_M : String := "OmegaDeskModel"
def F_M : u_T := fun k => match k with
  | 0 => ("OmegaDeskModel", "thrown", "I", false)
  | 1 => ("OmegaDeskModel", "to", "[I", true)
  | 2 => ("OmegaDeskModel", "good", "[I", true)
  | 3 => ("OmegaDeskModel", "size", "[I", true)
  | 4 => ("OmegaDeskModel", "found", "Z", false)
  | 5 => ("OmegaDeskModel", "witness", "[I", true)
  | 6 => ("OmegaDeskModel", "seen", "[J", true)
  | 7 => ("OmegaDeskModel", "fresh", "[J", true)
  | 8 => ("OmegaDeskModel", "coming", "[J", true)
  | 9 => ("OmegaDeskModel", "digit", "[I", true)
  | 10 => ("OmegaDeskModel", "after", "[I", true)
  | _ => ("OmegaDeskModel", "beginnings", "[I", true)
def tf_M : Nat → FieldType := fun k => match k with
  | 0 => .int
  | 1 => .array .int
  | 2 => .array .int
  | 3 => .array .int
  | 4 => .boolean
  | 5 => .array .int
  | 6 => .array .long
  | 7 => .array .long
  | 8 => .array .long
  | 9 => .array .int
  | 10 => .array .int
  | _ => .array .int
abbrev classes : List vw_C := [(R_A, F_A, 3), (R_D, F_D, 4), (R_R, F_R, 7), (R_F, F_F, 7), (R_T, F_T, 2), (R_M, F_M, 12)]
theorem nf_A : ∀ a, a < 3 → ∀ b, b < 3 → a ≠ b → (F_A a).2.1 ≠ (F_A b).2.1 := by decide +kernel
theorem tf_A_ok : ∀ k, k < 3 → parseFieldDescriptor (F_A k).2.2.1 = some (tf_A k) := by decide +kernel
theorem nf_D : ∀ a, a < 4 → ∀ b, b < 4 → a ≠ b → (F_D a).2.1 ≠ (F_D b).2.1 := by decide +kernel
theorem tf_D_ok : ∀ k, k < 4 → parseFieldDescriptor (F_D k).2.2.1 = some (tf_D k) := by decide +kernel
theorem nf_R : ∀ a, a < 7 → ∀ b, b < 7 → a ≠ b → (F_R a).2.1 ≠ (F_R b).2.1 := by decide +kernel
theorem tf_R_ok : ∀ k, k < 7 → parseFieldDescriptor (F_R k).2.2.1 = some (tf_R k) := by decide +kernel
theorem nf_F : ∀ a, a < 7 → ∀ b, b < 7 → a ≠ b → (F_F a).2.1 ≠ (F_F b).2.1 := by decide +kernel
theorem tf_F_ok : ∀ k, k < 7 → parseFieldDescriptor (F_F k).2.2.1 = some (tf_F k) := by decide +kernel
theorem nf_T : ∀ a, a < 2 → ∀ b, b < 2 → a ≠ b → (F_T a).2.1 ≠ (F_T b).2.1 := by decide +kernel
theorem tf_T_ok : ∀ k, k < 2 → parseFieldDescriptor (F_T k).2.2.1 = some (tf_T k) := by decide +kernel
theorem nf_M : ∀ a, a < 12 → ∀ b, b < 12 → a ≠ b → (F_M a).2.1 ≠ (F_M b).2.1 := by decide +kernel
theorem tf_M_ok : ∀ k, k < 12 → parseFieldDescriptor (F_M k).2.2.1 = some (tf_M k) := by decide +kernel
def WB : List Cond := lw_tbl.filter goodWord
def NW : List Cond := [(Jvm.Cond.methodLinkNest "OmegaDesk" (15 : Nat) ({ cls := "OmegaDesk$Automaton", name := "<init>", desc := "()V" } : Jvm.MethodName) "OmegaDesk"), (Jvm.Cond.fieldLinkNest "OmegaDesk" (38 : Nat) "OmegaDesk$Automaton" "size" "I" "OmegaDesk"), (Jvm.Cond.fieldLinkNest "OmegaDesk$WordTable" (18 : Nat) "OmegaDesk$Automaton" "size" "I" "OmegaDesk"), (Jvm.Cond.fieldLinkNest "OmegaDesk$Refuter" (75 : Nat) "OmegaDesk$Automaton" "size" "I" "OmegaDesk"), (Jvm.Cond.fieldLinkNest "OmegaDesk$Refuter" (40 : Nat) "OmegaDesk$Automaton" "goodStates" "I" "OmegaDesk"), (Jvm.Cond.methodLinkNest "OmegaDesk" (22 : Nat) ({ cls := "OmegaDesk$Refuter", name := "<init>", desc := "()V" } : Jvm.MethodName) "OmegaDesk"), (Jvm.Cond.methodLinkNest "OmegaDesk" (29 : Nat) ({ cls := "OmegaDesk$LassoFinder", name := "<init>", desc := "()V" } : Jvm.MethodName) "OmegaDesk"), (Jvm.Cond.methodLinkNest "OmegaDesk$LassoFinder" (11 : Nat) ({ cls := "OmegaDesk$WordTable", name := "<init>", desc := "()V" } : Jvm.MethodName) "OmegaDesk"), (Jvm.Cond.fieldLinkNest "OmegaDesk" (126 : Nat) "OmegaDesk$LassoFinder" "found" "Z" "OmegaDesk"), (Jvm.Cond.fieldLinkNest "OmegaDesk" (135 : Nat) "OmegaDesk$LassoFinder" "headLength" "I" "OmegaDesk"), (Jvm.Cond.fieldLinkNest "OmegaDesk" (138 : Nat) "OmegaDesk$LassoFinder" "head" "I" "OmegaDesk"), (Jvm.Cond.fieldLinkNest "OmegaDesk" (141 : Nat) "OmegaDesk$LassoFinder" "tailLength" "I" "OmegaDesk"), (Jvm.Cond.fieldLinkNest "OmegaDesk" (144 : Nat) "OmegaDesk$LassoFinder" "tail" "I" "OmegaDesk")]
theorem nw_28 : (Jvm.Cond.methodLinkNest "OmegaDesk" (15 : Nat) ({ cls := "OmegaDesk$Automaton", name := "<init>", desc := "()V" } : Jvm.MethodName) "OmegaDesk") ∈ NW := List.mem_of_getElem? (i := 0) rfl
theorem nw_33 : (Jvm.Cond.fieldLinkNest "OmegaDesk" (38 : Nat) "OmegaDesk$Automaton" "size" "I" "OmegaDesk") ∈ NW := List.mem_of_getElem? (i := 1) rfl
theorem nw_34 : (Jvm.Cond.fieldLinkNest "OmegaDesk$WordTable" (18 : Nat) "OmegaDesk$Automaton" "size" "I" "OmegaDesk") ∈ NW := List.mem_of_getElem? (i := 2) rfl
theorem nw_35 : (Jvm.Cond.fieldLinkNest "OmegaDesk$Refuter" (75 : Nat) "OmegaDesk$Automaton" "size" "I" "OmegaDesk") ∈ NW := List.mem_of_getElem? (i := 3) rfl
theorem nw_37 : (Jvm.Cond.fieldLinkNest "OmegaDesk$Refuter" (40 : Nat) "OmegaDesk$Automaton" "goodStates" "I" "OmegaDesk") ∈ NW := List.mem_of_getElem? (i := 4) rfl
theorem nw_49 : (Jvm.Cond.methodLinkNest "OmegaDesk" (22 : Nat) ({ cls := "OmegaDesk$Refuter", name := "<init>", desc := "()V" } : Jvm.MethodName) "OmegaDesk") ∈ NW := List.mem_of_getElem? (i := 5) rfl
theorem nw_77 : (Jvm.Cond.methodLinkNest "OmegaDesk" (29 : Nat) ({ cls := "OmegaDesk$LassoFinder", name := "<init>", desc := "()V" } : Jvm.MethodName) "OmegaDesk") ∈ NW := List.mem_of_getElem? (i := 6) rfl
theorem nw_83 : (Jvm.Cond.methodLinkNest "OmegaDesk$LassoFinder" (11 : Nat) ({ cls := "OmegaDesk$WordTable", name := "<init>", desc := "()V" } : Jvm.MethodName) "OmegaDesk") ∈ NW := List.mem_of_getElem? (i := 7) rfl
theorem nw_97 : (Jvm.Cond.fieldLinkNest "OmegaDesk" (126 : Nat) "OmegaDesk$LassoFinder" "found" "Z" "OmegaDesk") ∈ NW := List.mem_of_getElem? (i := 8) rfl
theorem nw_99 : (Jvm.Cond.fieldLinkNest "OmegaDesk" (135 : Nat) "OmegaDesk$LassoFinder" "headLength" "I" "OmegaDesk") ∈ NW := List.mem_of_getElem? (i := 9) rfl
theorem nw_101 : (Jvm.Cond.fieldLinkNest "OmegaDesk" (138 : Nat) "OmegaDesk$LassoFinder" "head" "I" "OmegaDesk") ∈ NW := List.mem_of_getElem? (i := 10) rfl
theorem nw_103 : (Jvm.Cond.fieldLinkNest "OmegaDesk" (141 : Nat) "OmegaDesk$LassoFinder" "tailLength" "I" "OmegaDesk") ∈ NW := List.mem_of_getElem? (i := 11) rfl
theorem nw_105 : (Jvm.Cond.fieldLinkNest "OmegaDesk" (144 : Nat) "OmegaDesk$LassoFinder" "tail" "I" "OmegaDesk") ∈ NW := List.mem_of_getElem? (i := 12) rfl
end
section
theorem wb_1 : (Jvm.Cond.initialized "OmegaDesk") ∈ WB := List.mem_filter.mpr ⟨List.mem_append_right _ (List.mem_of_getElem? (i := 1) rfl), rfl⟩
theorem wb_2 : (Jvm.Cond.initialized "OmegaDesk$Automaton") ∈ WB := List.mem_filter.mpr ⟨List.mem_append_right _ (List.mem_of_getElem? (i := 2) rfl), rfl⟩
theorem wb_3 : (Jvm.Cond.initialized "OmegaDesk$Refuter") ∈ WB := List.mem_filter.mpr ⟨List.mem_append_right _ (List.mem_of_getElem? (i := 3) rfl), rfl⟩
theorem wb_4 : (Jvm.Cond.initialized "OmegaDesk$LassoFinder") ∈ WB := List.mem_filter.mpr ⟨List.mem_append_right _ (List.mem_of_getElem? (i := 4) rfl), rfl⟩
theorem wb_5 : (Jvm.Cond.initialized "OmegaDesk$WordTable") ∈ WB := List.mem_filter.mpr ⟨List.mem_append_right _ (List.mem_of_getElem? (i := 5) rfl), rfl⟩
theorem wb_6 : (Jvm.Cond.initialized "OmegaDeskModel") ∈ WB := List.mem_filter.mpr ⟨List.mem_append_right _ (List.mem_of_getElem? (i := 6) rfl), rfl⟩
theorem wb_12 : (Jvm.Cond.initialized "java/util/Arrays") ∈ WB := List.mem_filter.mpr ⟨List.mem_append_right _ (List.mem_of_getElem? (i := 12) rfl), rfl⟩
theorem wb_13 : (Jvm.Cond.initialized "java/lang/System") ∈ WB := List.mem_filter.mpr ⟨List.mem_append_right _ (List.mem_of_getElem? (i := 13) rfl), rfl⟩
theorem wb_14 : (Jvm.Cond.initialized "OmegaDesk$Passage") ∈ WB := List.mem_filter.mpr ⟨List.mem_append_right _ (List.mem_of_getElem? (i := 14) rfl), rfl⟩
theorem wb_15 : (Jvm.Cond.initialized "java/lang/Integer") ∈ WB := List.mem_filter.mpr ⟨List.mem_append_right _ (List.mem_of_getElem? (i := 15) rfl), rfl⟩
theorem wb_32 : (Jvm.Cond.fieldLink "OmegaDesk$Automaton" (9 : Nat) "OmegaDesk$Automaton" "size" "I") ∈ WB := List.mem_filter.mpr ⟨List.mem_append_right _ (List.mem_of_getElem? (i := 32) rfl), rfl⟩
theorem wb_36 : (Jvm.Cond.fieldLink "OmegaDesk$Automaton" (15 : Nat) "OmegaDesk$Automaton" "goodStates" "I") ∈ WB := List.mem_filter.mpr ⟨List.mem_append_right _ (List.mem_of_getElem? (i := 36) rfl), rfl⟩
theorem wb_38 : (Jvm.Cond.fieldLink "OmegaDesk$Automaton" (18 : Nat) "OmegaDesk$Automaton" "followers" "[I") ∈ WB := List.mem_filter.mpr ⟨List.mem_append_right _ (List.mem_of_getElem? (i := 38) rfl), rfl⟩
theorem wb_53 : (Jvm.Cond.fieldLink "OmegaDesk$Refuter" (11 : Nat) "OmegaDesk$Refuter" "keys" "[I") ∈ WB := List.mem_filter.mpr ⟨List.mem_append_right _ (List.mem_of_getElem? (i := 53) rfl), rfl⟩
theorem wb_54 : (Jvm.Cond.fieldLink "OmegaDesk$Refuter" (15 : Nat) "OmegaDesk$Refuter" "seenWays" "[I") ∈ WB := List.mem_filter.mpr ⟨List.mem_append_right _ (List.mem_of_getElem? (i := 54) rfl), rfl⟩
theorem wb_55 : (Jvm.Cond.fieldLink "OmegaDesk$Refuter" (18 : Nat) "OmegaDesk$Refuter" "freshWays" "[I") ∈ WB := List.mem_filter.mpr ⟨List.mem_append_right _ (List.mem_of_getElem? (i := 55) rfl), rfl⟩
theorem wb_56 : (Jvm.Cond.fieldLink "OmegaDesk$Refuter" (21 : Nat) "OmegaDesk$Refuter" "queue" "[I") ∈ WB := List.mem_filter.mpr ⟨List.mem_append_right _ (List.mem_of_getElem? (i := 56) rfl), rfl⟩
theorem wb_57 : (Jvm.Cond.fieldLink "OmegaDesk$Refuter" (24 : Nat) "OmegaDesk$Refuter" "queueStart" "I") ∈ WB := List.mem_filter.mpr ⟨List.mem_append_right _ (List.mem_of_getElem? (i := 57) rfl), rfl⟩
theorem wb_58 : (Jvm.Cond.fieldLink "OmegaDesk$Refuter" (28 : Nat) "OmegaDesk$Refuter" "queued" "I") ∈ WB := List.mem_filter.mpr ⟨List.mem_append_right _ (List.mem_of_getElem? (i := 58) rfl), rfl⟩
theorem wb_59 : (Jvm.Cond.fieldLink "OmegaDesk$Refuter" (31 : Nat) "OmegaDesk$Refuter" "meetings" "[I") ∈ WB := List.mem_filter.mpr ⟨List.mem_append_right _ (List.mem_of_getElem? (i := 59) rfl), rfl⟩
theorem wb_87 : (Jvm.Cond.fieldLink "OmegaDesk$WordTable" (11 : Nat) "OmegaDesk$WordTable" "passages" "[I") ∈ WB := List.mem_filter.mpr ⟨List.mem_append_right _ (List.mem_of_getElem? (i := 87) rfl), rfl⟩
theorem wb_88 : (Jvm.Cond.fieldLink "OmegaDesk$WordTable" (15 : Nat) "OmegaDesk$WordTable" "takenRepeated" "[I") ∈ WB := List.mem_filter.mpr ⟨List.mem_append_right _ (List.mem_of_getElem? (i := 88) rfl), rfl⟩
theorem wb_94 : (Jvm.Cond.fieldLink "OmegaDesk$LassoFinder" (12 : Nat) "OmegaDesk$LassoFinder" "innerWords" "LOmegaDesk$WordTable;") ∈ WB := List.mem_filter.mpr ⟨List.mem_append_right _ (List.mem_of_getElem? (i := 94) rfl), rfl⟩
theorem wb_95 : (Jvm.Cond.fieldLink "OmegaDesk$LassoFinder" (18 : Nat) "OmegaDesk$LassoFinder" "outerWords" "LOmegaDesk$WordTable;") ∈ WB := List.mem_filter.mpr ⟨List.mem_append_right _ (List.mem_of_getElem? (i := 95) rfl), rfl⟩
theorem wb_96 : (Jvm.Cond.fieldLink "OmegaDesk$LassoFinder" (21 : Nat) "OmegaDesk$LassoFinder" "found" "Z") ∈ WB := List.mem_filter.mpr ⟨List.mem_append_right _ (List.mem_of_getElem? (i := 96) rfl), rfl⟩
theorem wb_98 : (Jvm.Cond.fieldLink "OmegaDesk$LassoFinder" (25 : Nat) "OmegaDesk$LassoFinder" "headLength" "I") ∈ WB := List.mem_filter.mpr ⟨List.mem_append_right _ (List.mem_of_getElem? (i := 98) rfl), rfl⟩
theorem wb_100 : (Jvm.Cond.fieldLink "OmegaDesk$LassoFinder" (29 : Nat) "OmegaDesk$LassoFinder" "head" "I") ∈ WB := List.mem_filter.mpr ⟨List.mem_append_right _ (List.mem_of_getElem? (i := 100) rfl), rfl⟩
theorem wb_102 : (Jvm.Cond.fieldLink "OmegaDesk$LassoFinder" (32 : Nat) "OmegaDesk$LassoFinder" "tailLength" "I") ∈ WB := List.mem_filter.mpr ⟨List.mem_append_right _ (List.mem_of_getElem? (i := 102) rfl), rfl⟩
theorem wb_104 : (Jvm.Cond.fieldLink "OmegaDesk$LassoFinder" (35 : Nat) "OmegaDesk$LassoFinder" "tail" "I") ∈ WB := List.mem_filter.mpr ⟨List.mem_append_right _ (List.mem_of_getElem? (i := 104) rfl), rfl⟩
theorem wb_232 : (Jvm.Cond.instanceMethod ({ cls := "OmegaDesk$Automaton", name := "addState", desc := "(Z)I" } : Jvm.MethodName)) ∈ WB := List.mem_filter.mpr ⟨List.mem_append_right _ (List.mem_of_getElem? (i := 232) rfl), rfl⟩
theorem wb_233 : (Jvm.Cond.selects "OmegaDesk$Automaton" ({ cls := "OmegaDesk$Automaton", name := "addState", desc := "(Z)I" } : Jvm.MethodName) ({ cls := "OmegaDesk$Automaton", name := "addState", desc := "(Z)I" } : Jvm.MethodName)) ∈ WB := List.mem_filter.mpr ⟨List.mem_append_right _ (List.mem_of_getElem? (i := 233) rfl), rfl⟩
theorem wb_234 : (Jvm.Cond.code ({ cls := "OmegaDesk$Automaton", name := "addState", desc := "(Z)I" } : Jvm.MethodName) prog_2_method_7_code (3 : Nat) (Option.some Jvm.ClassFile.FieldType.int)) ∈ WB := List.mem_filter.mpr ⟨List.mem_append_right _ (List.mem_of_getElem? (i := 234) rfl), rfl⟩
theorem wb_249 : (Jvm.Cond.code ({ cls := "OmegaDesk$Automaton", name := "hasState", desc := "(I)Z" } : Jvm.MethodName) prog_2_method_2_code (2 : Nat) (Option.some Jvm.ClassFile.FieldType.boolean)) ∈ WB := List.mem_filter.mpr ⟨List.mem_append_right _ (List.mem_of_getElem? (i := 249) rfl), rfl⟩
theorem wb_255 : (Jvm.Cond.code ({ cls := "OmegaDesk$Automaton", name := "joins", desc := "(III)Z" } : Jvm.MethodName) prog_2_method_4_code (4 : Nat) (Option.some Jvm.ClassFile.FieldType.boolean)) ∈ WB := List.mem_filter.mpr ⟨List.mem_append_right _ (List.mem_of_getElem? (i := 255) rfl), rfl⟩
theorem wb_256 : (Jvm.Cond.methodLink "OmegaDesk$Automaton" (22 : Nat) ({ cls := "OmegaDesk$Automaton", name := "followersOf", desc := "(II)I" } : Jvm.MethodName)) ∈ WB := List.mem_filter.mpr ⟨List.mem_append_right _ (List.mem_of_getElem? (i := 256) rfl), rfl⟩
theorem wb_257 : (Jvm.Cond.instanceMethod ({ cls := "OmegaDesk$Automaton", name := "followersOf", desc := "(II)I" } : Jvm.MethodName)) ∈ WB := List.mem_filter.mpr ⟨List.mem_append_right _ (List.mem_of_getElem? (i := 257) rfl), rfl⟩
theorem wb_258 : (Jvm.Cond.selects "OmegaDesk$Automaton" ({ cls := "OmegaDesk$Automaton", name := "followersOf", desc := "(II)I" } : Jvm.MethodName) ({ cls := "OmegaDesk$Automaton", name := "followersOf", desc := "(II)I" } : Jvm.MethodName)) ∈ WB := List.mem_filter.mpr ⟨List.mem_append_right _ (List.mem_of_getElem? (i := 258) rfl), rfl⟩
theorem wb_259 : (Jvm.Cond.code ({ cls := "OmegaDesk$Automaton", name := "followersOf", desc := "(II)I" } : Jvm.MethodName) prog_2_method_5_code (3 : Nat) (Option.some Jvm.ClassFile.FieldType.int)) ∈ WB := List.mem_filter.mpr ⟨List.mem_append_right _ (List.mem_of_getElem? (i := 259) rfl), rfl⟩
theorem wb_261 : (Jvm.Cond.instanceMethod ({ cls := "OmegaDesk$Automaton", name := "join", desc := "(III)V" } : Jvm.MethodName)) ∈ WB := List.mem_filter.mpr ⟨List.mem_append_right _ (List.mem_of_getElem? (i := 261) rfl), rfl⟩
theorem wb_262 : (Jvm.Cond.selects "OmegaDesk$Automaton" ({ cls := "OmegaDesk$Automaton", name := "join", desc := "(III)V" } : Jvm.MethodName) ({ cls := "OmegaDesk$Automaton", name := "join", desc := "(III)V" } : Jvm.MethodName)) ∈ WB := List.mem_filter.mpr ⟨List.mem_append_right _ (List.mem_of_getElem? (i := 262) rfl), rfl⟩
theorem wb_263 : (Jvm.Cond.code ({ cls := "OmegaDesk$Automaton", name := "join", desc := "(III)V" } : Jvm.MethodName) prog_2_method_8_code (5 : Nat) (Option.none : Option Jvm.ClassFile.FieldType)) ∈ WB := List.mem_filter.mpr ⟨List.mem_append_right _ (List.mem_of_getElem? (i := 263) rfl), rfl⟩
theorem wb_272 : (Jvm.Cond.instanceMethod ({ cls := "OmegaDesk$Automaton", name := "wipe", desc := "()V" } : Jvm.MethodName)) ∈ WB := List.mem_filter.mpr ⟨List.mem_append_right _ (List.mem_of_getElem? (i := 272) rfl), rfl⟩
theorem wb_273 : (Jvm.Cond.selects "OmegaDesk$Automaton" ({ cls := "OmegaDesk$Automaton", name := "wipe", desc := "()V" } : Jvm.MethodName) ({ cls := "OmegaDesk$Automaton", name := "wipe", desc := "()V" } : Jvm.MethodName)) ∈ WB := List.mem_filter.mpr ⟨List.mem_append_right _ (List.mem_of_getElem? (i := 273) rfl), rfl⟩
theorem wb_274 : (Jvm.Cond.code ({ cls := "OmegaDesk$Automaton", name := "wipe", desc := "()V" } : Jvm.MethodName) prog_2_method_6_code (1 : Nat) (Option.none : Option Jvm.ClassFile.FieldType)) ∈ WB := List.mem_filter.mpr ⟨List.mem_append_right _ (List.mem_of_getElem? (i := 274) rfl), rfl⟩
theorem wb_275 : (Jvm.Cond.methodLink "OmegaDesk$Automaton" (26 : Nat) ({ cls := "java/util/Arrays", name := "fill", desc := "([II)V" } : Jvm.MethodName)) ∈ WB := List.mem_filter.mpr ⟨List.mem_append_right _ (List.mem_of_getElem? (i := 275) rfl), rfl⟩
theorem wb_276 : (Jvm.Cond.static ({ cls := "java/util/Arrays", name := "fill", desc := "([II)V" } : Jvm.MethodName)) ∈ WB := List.mem_filter.mpr ⟨List.mem_append_right _ (List.mem_of_getElem? (i := 276) rfl), rfl⟩
theorem wb_277 : (Jvm.Cond.code ({ cls := "java/util/Arrays", name := "fill", desc := "([II)V" } : Jvm.MethodName) prog_17_method_103_code (4 : Nat) (Option.none : Option Jvm.ClassFile.FieldType)) ∈ WB := List.mem_filter.mpr ⟨List.mem_append_right _ (List.mem_of_getElem? (i := 277) rfl), rfl⟩
theorem wb_290 : (Jvm.Cond.code ({ cls := "OmegaDesk$Automaton", name := "append", desc := "(LOmegaDesk$Automaton;)V" } : Jvm.MethodName) prog_2_method_10_code (6 : Nat) (Option.none : Option Jvm.ClassFile.FieldType)) ∈ WB := List.mem_filter.mpr ⟨List.mem_append_right _ (List.mem_of_getElem? (i := 290) rfl), rfl⟩
theorem wb_291 : (Jvm.Cond.methodLink "OmegaDesk$Automaton" (38 : Nat) ({ cls := "OmegaDesk$Automaton", name := "isGood", desc := "(I)Z" } : Jvm.MethodName)) ∈ WB := List.mem_filter.mpr ⟨List.mem_append_right _ (List.mem_of_getElem? (i := 291) rfl), rfl⟩
theorem wb_292 : (Jvm.Cond.instanceMethod ({ cls := "OmegaDesk$Automaton", name := "isGood", desc := "(I)Z" } : Jvm.MethodName)) ∈ WB := List.mem_filter.mpr ⟨List.mem_append_right _ (List.mem_of_getElem? (i := 292) rfl), rfl⟩
theorem wb_293 : (Jvm.Cond.selects "OmegaDesk$Automaton" ({ cls := "OmegaDesk$Automaton", name := "isGood", desc := "(I)Z" } : Jvm.MethodName) ({ cls := "OmegaDesk$Automaton", name := "isGood", desc := "(I)Z" } : Jvm.MethodName)) ∈ WB := List.mem_filter.mpr ⟨List.mem_append_right _ (List.mem_of_getElem? (i := 293) rfl), rfl⟩
theorem wb_294 : (Jvm.Cond.code ({ cls := "OmegaDesk$Automaton", name := "isGood", desc := "(I)Z" } : Jvm.MethodName) prog_2_method_3_code (2 : Nat) (Option.some Jvm.ClassFile.FieldType.boolean)) ∈ WB := List.mem_filter.mpr ⟨List.mem_append_right _ (List.mem_of_getElem? (i := 294) rfl), rfl⟩
theorem wb_295 : (Jvm.Cond.methodLink "OmegaDesk$Automaton" (42 : Nat) ({ cls := "OmegaDesk$Automaton", name := "addState", desc := "(Z)I" } : Jvm.MethodName)) ∈ WB := List.mem_filter.mpr ⟨List.mem_append_right _ (List.mem_of_getElem? (i := 295) rfl), rfl⟩
theorem wb_296 : (Jvm.Cond.methodLink "OmegaDesk$Automaton" (46 : Nat) ({ cls := "OmegaDesk$Automaton", name := "joinAll", desc := "(III)V" } : Jvm.MethodName)) ∈ WB := List.mem_filter.mpr ⟨List.mem_append_right _ (List.mem_of_getElem? (i := 296) rfl), rfl⟩
theorem wb_298 : (Jvm.Cond.instanceMethod ({ cls := "OmegaDesk$Automaton", name := "joinAll", desc := "(III)V" } : Jvm.MethodName)) ∈ WB := List.mem_filter.mpr ⟨List.mem_append_right _ (List.mem_of_getElem? (i := 298) rfl), rfl⟩
theorem wb_299 : (Jvm.Cond.code ({ cls := "OmegaDesk$Automaton", name := "joinAll", desc := "(III)V" } : Jvm.MethodName) prog_2_method_11_code (5 : Nat) (Option.none : Option Jvm.ClassFile.FieldType)) ∈ WB := List.mem_filter.mpr ⟨List.mem_append_right _ (List.mem_of_getElem? (i := 299) rfl), rfl⟩
theorem wb_300 : (Jvm.Cond.methodLink "OmegaDesk$Automaton" (50 : Nat) ({ cls := "OmegaDesk$Automaton", name := "join", desc := "(III)V" } : Jvm.MethodName)) ∈ WB := List.mem_filter.mpr ⟨List.mem_append_right _ (List.mem_of_getElem? (i := 300) rfl), rfl⟩
set_option maxRecDepth 20000 in
theorem wb_311 : (Jvm.Cond.code ({ cls := "OmegaDesk$Automaton", name := "copy", desc := "(LOmegaDesk$Automaton;)V" } : Jvm.MethodName) prog_2_method_9_code (2 : Nat) (Option.none : Option Jvm.ClassFile.FieldType)) ∈ WB := List.mem_filter.mpr ⟨List.mem_append_right _ (List.mem_of_getElem? (i := 311) rfl), rfl⟩
set_option maxRecDepth 20000 in
theorem wb_312 : (Jvm.Cond.methodLink "OmegaDesk$Automaton" (32 : Nat) ({ cls := "java/lang/System", name := "arraycopy", desc := "(Ljava/lang/Object;ILjava/lang/Object;II)V" } : Jvm.MethodName)) ∈ WB := List.mem_filter.mpr ⟨List.mem_append_right _ (List.mem_of_getElem? (i := 312) rfl), rfl⟩
set_option maxRecDepth 20000 in
theorem wb_313 : (Jvm.Cond.static ({ cls := "java/lang/System", name := "arraycopy", desc := "(Ljava/lang/Object;ILjava/lang/Object;II)V" } : Jvm.MethodName)) ∈ WB := List.mem_filter.mpr ⟨List.mem_append_right _ (List.mem_of_getElem? (i := 313) rfl), rfl⟩
set_option maxRecDepth 20000 in
theorem wb_314 : (Jvm.Cond.native ({ cls := "java/lang/System", name := "arraycopy", desc := "(Ljava/lang/Object;ILjava/lang/Object;II)V" } : Jvm.MethodName)) ∈ WB := List.mem_filter.mpr ⟨List.mem_append_right _ (List.mem_of_getElem? (i := 314) rfl), rfl⟩
set_option maxRecDepth 20000 in
theorem wb_316 : (Jvm.Cond.instanceMethod ({ cls := "OmegaDesk$Automaton", name := "usefulStates", desc := "()I" } : Jvm.MethodName)) ∈ WB := List.mem_filter.mpr ⟨List.mem_append_right _ (List.mem_of_getElem? (i := 316) rfl), rfl⟩
set_option maxRecDepth 20000 in
theorem wb_317 : (Jvm.Cond.selects "OmegaDesk$Automaton" ({ cls := "OmegaDesk$Automaton", name := "usefulStates", desc := "()I" } : Jvm.MethodName) ({ cls := "OmegaDesk$Automaton", name := "usefulStates", desc := "()I" } : Jvm.MethodName)) ∈ WB := List.mem_filter.mpr ⟨List.mem_append_right _ (List.mem_of_getElem? (i := 317) rfl), rfl⟩
set_option maxRecDepth 20000 in
theorem wb_318 : (Jvm.Cond.code ({ cls := "OmegaDesk$Automaton", name := "usefulStates", desc := "()I" } : Jvm.MethodName) prog_2_method_15_code (4 : Nat) (Option.some Jvm.ClassFile.FieldType.int)) ∈ WB := List.mem_filter.mpr ⟨List.mem_append_right _ (List.mem_of_getElem? (i := 318) rfl), rfl⟩
set_option maxRecDepth 20000 in
theorem wb_319 : (Jvm.Cond.methodLink "OmegaDesk$Automaton" (68 : Nat) ({ cls := "OmegaDesk$Automaton", name := "emptyPassage", desc := "(I)I" } : Jvm.MethodName)) ∈ WB := List.mem_filter.mpr ⟨List.mem_append_right _ (List.mem_of_getElem? (i := 319) rfl), rfl⟩
set_option maxRecDepth 20000 in
theorem wb_320 : (Jvm.Cond.instanceMethod ({ cls := "OmegaDesk$Automaton", name := "emptyPassage", desc := "(I)I" } : Jvm.MethodName)) ∈ WB := List.mem_filter.mpr ⟨List.mem_append_right _ (List.mem_of_getElem? (i := 320) rfl), rfl⟩
set_option maxRecDepth 20000 in
theorem wb_321 : (Jvm.Cond.selects "OmegaDesk$Automaton" ({ cls := "OmegaDesk$Automaton", name := "emptyPassage", desc := "(I)I" } : Jvm.MethodName) ({ cls := "OmegaDesk$Automaton", name := "emptyPassage", desc := "(I)I" } : Jvm.MethodName)) ∈ WB := List.mem_filter.mpr ⟨List.mem_append_right _ (List.mem_of_getElem? (i := 321) rfl), rfl⟩
set_option maxRecDepth 20000 in
theorem wb_322 : (Jvm.Cond.code ({ cls := "OmegaDesk$Automaton", name := "emptyPassage", desc := "(I)I" } : Jvm.MethodName) prog_2_method_16_code (4 : Nat) (Option.some Jvm.ClassFile.FieldType.int)) ∈ WB := List.mem_filter.mpr ⟨List.mem_append_right _ (List.mem_of_getElem? (i := 322) rfl), rfl⟩
set_option maxRecDepth 20000 in
theorem wb_323 : (Jvm.Cond.methodLink "OmegaDesk$Automaton" (71 : Nat) ({ cls := "OmegaDesk$Automaton", name := "longerPassage", desc := "(II)I" } : Jvm.MethodName)) ∈ WB := List.mem_filter.mpr ⟨List.mem_append_right _ (List.mem_of_getElem? (i := 323) rfl), rfl⟩
set_option maxRecDepth 20000 in
theorem wb_324 : (Jvm.Cond.instanceMethod ({ cls := "OmegaDesk$Automaton", name := "longerPassage", desc := "(II)I" } : Jvm.MethodName)) ∈ WB := List.mem_filter.mpr ⟨List.mem_append_right _ (List.mem_of_getElem? (i := 324) rfl), rfl⟩
set_option maxRecDepth 20000 in
theorem wb_325 : (Jvm.Cond.selects "OmegaDesk$Automaton" ({ cls := "OmegaDesk$Automaton", name := "longerPassage", desc := "(II)I" } : Jvm.MethodName) ({ cls := "OmegaDesk$Automaton", name := "longerPassage", desc := "(II)I" } : Jvm.MethodName)) ∈ WB := List.mem_filter.mpr ⟨List.mem_append_right _ (List.mem_of_getElem? (i := 325) rfl), rfl⟩
set_option maxRecDepth 20000 in
theorem wb_326 : (Jvm.Cond.code ({ cls := "OmegaDesk$Automaton", name := "longerPassage", desc := "(II)I" } : Jvm.MethodName) prog_2_method_17_code (7 : Nat) (Option.some Jvm.ClassFile.FieldType.int)) ∈ WB := List.mem_filter.mpr ⟨List.mem_append_right _ (List.mem_of_getElem? (i := 326) rfl), rfl⟩
set_option maxRecDepth 20000 in
theorem wb_327 : (Jvm.Cond.methodLink "OmegaDesk$Automaton" (85 : Nat) ({ cls := "OmegaDesk$Passage", name := "ends", desc := "(II)I" } : Jvm.MethodName)) ∈ WB := List.mem_filter.mpr ⟨List.mem_append_right _ (List.mem_of_getElem? (i := 327) rfl), rfl⟩
set_option maxRecDepth 20000 in
theorem wb_328 : (Jvm.Cond.static ({ cls := "OmegaDesk$Passage", name := "ends", desc := "(II)I" } : Jvm.MethodName)) ∈ WB := List.mem_filter.mpr ⟨List.mem_append_right _ (List.mem_of_getElem? (i := 328) rfl), rfl⟩
set_option maxRecDepth 20000 in
theorem wb_329 : (Jvm.Cond.code ({ cls := "OmegaDesk$Passage", name := "ends", desc := "(II)I" } : Jvm.MethodName) prog_4_method_2_code (2 : Nat) (Option.some Jvm.ClassFile.FieldType.int)) ∈ WB := List.mem_filter.mpr ⟨List.mem_append_right _ (List.mem_of_getElem? (i := 329) rfl), rfl⟩
set_option maxRecDepth 20000 in
theorem wb_330 : (Jvm.Cond.methodLink "OmegaDesk$Automaton" (88 : Nat) ({ cls := "OmegaDesk$Passage", name := "goodEnds", desc := "(II)I" } : Jvm.MethodName)) ∈ WB := List.mem_filter.mpr ⟨List.mem_append_right _ (List.mem_of_getElem? (i := 330) rfl), rfl⟩
set_option maxRecDepth 20000 in
theorem wb_331 : (Jvm.Cond.static ({ cls := "OmegaDesk$Passage", name := "goodEnds", desc := "(II)I" } : Jvm.MethodName)) ∈ WB := List.mem_filter.mpr ⟨List.mem_append_right _ (List.mem_of_getElem? (i := 331) rfl), rfl⟩
set_option maxRecDepth 20000 in
theorem wb_332 : (Jvm.Cond.code ({ cls := "OmegaDesk$Passage", name := "goodEnds", desc := "(II)I" } : Jvm.MethodName) prog_4_method_3_code (2 : Nat) (Option.some Jvm.ClassFile.FieldType.int)) ∈ WB := List.mem_filter.mpr ⟨List.mem_append_right _ (List.mem_of_getElem? (i := 332) rfl), rfl⟩
set_option maxRecDepth 20000 in
theorem wb_333 : (Jvm.Cond.methodLink "OmegaDesk$Automaton" (74 : Nat) ({ cls := "OmegaDesk$Passage", name := "chained", desc := "(I)I" } : Jvm.MethodName)) ∈ WB := List.mem_filter.mpr ⟨List.mem_append_right _ (List.mem_of_getElem? (i := 333) rfl), rfl⟩
set_option maxRecDepth 20000 in
theorem wb_334 : (Jvm.Cond.static ({ cls := "OmegaDesk$Passage", name := "chained", desc := "(I)I" } : Jvm.MethodName)) ∈ WB := List.mem_filter.mpr ⟨List.mem_append_right _ (List.mem_of_getElem? (i := 334) rfl), rfl⟩
set_option maxRecDepth 20000 in
theorem wb_335 : (Jvm.Cond.code ({ cls := "OmegaDesk$Passage", name := "chained", desc := "(I)I" } : Jvm.MethodName) prog_4_method_5_code (4 : Nat) (Option.some Jvm.ClassFile.FieldType.int)) ∈ WB := List.mem_filter.mpr ⟨List.mem_append_right _ (List.mem_of_getElem? (i := 335) rfl), rfl⟩
set_option maxRecDepth 20000 in
theorem wb_336 : (Jvm.Cond.methodLink "OmegaDesk$Passage" (11 : Nat) ({ cls := "OmegaDesk$Passage", name := "ends", desc := "(II)I" } : Jvm.MethodName)) ∈ WB := List.mem_filter.mpr ⟨List.mem_append_right _ (List.mem_of_getElem? (i := 336) rfl), rfl⟩
set_option maxRecDepth 20000 in
theorem wb_337 : (Jvm.Cond.methodLink "OmegaDesk$Automaton" (79 : Nat) ({ cls := "OmegaDesk$Passage", name := "fromStart", desc := "(I)I" } : Jvm.MethodName)) ∈ WB := List.mem_filter.mpr ⟨List.mem_append_right _ (List.mem_of_getElem? (i := 337) rfl), rfl⟩
set_option maxRecDepth 20000 in
theorem wb_338 : (Jvm.Cond.static ({ cls := "OmegaDesk$Passage", name := "fromStart", desc := "(I)I" } : Jvm.MethodName)) ∈ WB := List.mem_filter.mpr ⟨List.mem_append_right _ (List.mem_of_getElem? (i := 338) rfl), rfl⟩
set_option maxRecDepth 20000 in
theorem wb_339 : (Jvm.Cond.code ({ cls := "OmegaDesk$Passage", name := "fromStart", desc := "(I)I" } : Jvm.MethodName) prog_4_method_4_code (1 : Nat) (Option.some Jvm.ClassFile.FieldType.int)) ∈ WB := List.mem_filter.mpr ⟨List.mem_append_right _ (List.mem_of_getElem? (i := 339) rfl), rfl⟩
set_option maxRecDepth 20000 in
theorem wb_340 : (Jvm.Cond.methodLink "OmegaDesk$Automaton" (82 : Nat) ({ cls := "OmegaDesk$Passage", name := "takenRepeated", desc := "(I)I" } : Jvm.MethodName)) ∈ WB := List.mem_filter.mpr ⟨List.mem_append_right _ (List.mem_of_getElem? (i := 340) rfl), rfl⟩
set_option maxRecDepth 20000 in
theorem wb_341 : (Jvm.Cond.static ({ cls := "OmegaDesk$Passage", name := "takenRepeated", desc := "(I)I" } : Jvm.MethodName)) ∈ WB := List.mem_filter.mpr ⟨List.mem_append_right _ (List.mem_of_getElem? (i := 341) rfl), rfl⟩
set_option maxRecDepth 20000 in
theorem wb_342 : (Jvm.Cond.code ({ cls := "OmegaDesk$Passage", name := "takenRepeated", desc := "(I)I" } : Jvm.MethodName) prog_4_method_6_code (5 : Nat) (Option.some Jvm.ClassFile.FieldType.int)) ∈ WB := List.mem_filter.mpr ⟨List.mem_append_right _ (List.mem_of_getElem? (i := 342) rfl), rfl⟩
set_option maxRecDepth 20000 in
theorem wb_343 : (Jvm.Cond.constant "OmegaDesk$Passage" (15 : Nat) (-252645136 : Int32)) ∈ WB := List.mem_filter.mpr ⟨List.mem_append_right _ (List.mem_of_getElem? (i := 343) rfl), rfl⟩
set_option maxRecDepth 20000 in
theorem wb_344 : (Jvm.Cond.methodLink "OmegaDesk$Passage" (16 : Nat) ({ cls := "OmegaDesk$Passage", name := "chained", desc := "(I)I" } : Jvm.MethodName)) ∈ WB := List.mem_filter.mpr ⟨List.mem_append_right _ (List.mem_of_getElem? (i := 344) rfl), rfl⟩
set_option maxRecDepth 20000 in
theorem wb_345 : (Jvm.Cond.methodLink "OmegaDesk$Passage" (20 : Nat) ({ cls := "OmegaDesk$Passage", name := "goodEnds", desc := "(II)I" } : Jvm.MethodName)) ∈ WB := List.mem_filter.mpr ⟨List.mem_append_right _ (List.mem_of_getElem? (i := 345) rfl), rfl⟩
set_option maxRecDepth 20000 in
theorem wb_346 : (Jvm.Cond.methodLink "OmegaDesk$Passage" (23 : Nat) ({ cls := "OmegaDesk$Passage", name := "comesBack", desc := "(III)Z" } : Jvm.MethodName)) ∈ WB := List.mem_filter.mpr ⟨List.mem_append_right _ (List.mem_of_getElem? (i := 346) rfl), rfl⟩
set_option maxRecDepth 20000 in
theorem wb_347 : (Jvm.Cond.static ({ cls := "OmegaDesk$Passage", name := "comesBack", desc := "(III)Z" } : Jvm.MethodName)) ∈ WB := List.mem_filter.mpr ⟨List.mem_append_right _ (List.mem_of_getElem? (i := 347) rfl), rfl⟩
set_option maxRecDepth 20000 in
theorem wb_348 : (Jvm.Cond.code ({ cls := "OmegaDesk$Passage", name := "comesBack", desc := "(III)Z" } : Jvm.MethodName) prog_4_method_7_code (4 : Nat) (Option.some Jvm.ClassFile.FieldType.boolean)) ∈ WB := List.mem_filter.mpr ⟨List.mem_append_right _ (List.mem_of_getElem? (i := 348) rfl), rfl⟩
set_option maxRecDepth 20000 in
theorem wb_352 : (Jvm.Cond.code ({ cls := "OmegaDesk$Automaton", name := "becomePart", desc := "(LOmegaDesk$Automaton;I)V" } : Jvm.MethodName) prog_2_method_12_code (6 : Nat) (Option.none : Option Jvm.ClassFile.FieldType)) ∈ WB := List.mem_filter.mpr ⟨List.mem_append_right _ (List.mem_of_getElem? (i := 352) rfl), rfl⟩
set_option maxRecDepth 20000 in
theorem wb_353 : (Jvm.Cond.methodLink "OmegaDesk$Automaton" (53 : Nat) ({ cls := "OmegaDesk$Automaton", name := "wipe", desc := "()V" } : Jvm.MethodName)) ∈ WB := List.mem_filter.mpr ⟨List.mem_append_right _ (List.mem_of_getElem? (i := 353) rfl), rfl⟩
set_option maxRecDepth 20000 in
theorem wb_354 : (Jvm.Cond.methodLink "OmegaDesk$Automaton" (56 : Nat) ({ cls := "OmegaDesk$Automaton", name := "placeAmong", desc := "(II)I" } : Jvm.MethodName)) ∈ WB := List.mem_filter.mpr ⟨List.mem_append_right _ (List.mem_of_getElem? (i := 354) rfl), rfl⟩
set_option maxRecDepth 20000 in
theorem wb_355 : (Jvm.Cond.static ({ cls := "OmegaDesk$Automaton", name := "placeAmong", desc := "(II)I" } : Jvm.MethodName)) ∈ WB := List.mem_filter.mpr ⟨List.mem_append_right _ (List.mem_of_getElem? (i := 355) rfl), rfl⟩
set_option maxRecDepth 20000 in
theorem wb_356 : (Jvm.Cond.code ({ cls := "OmegaDesk$Automaton", name := "placeAmong", desc := "(II)I" } : Jvm.MethodName) prog_2_method_14_code (2 : Nat) (Option.some Jvm.ClassFile.FieldType.int)) ∈ WB := List.mem_filter.mpr ⟨List.mem_append_right _ (List.mem_of_getElem? (i := 356) rfl), rfl⟩
set_option maxRecDepth 20000 in
theorem wb_357 : (Jvm.Cond.methodLink "OmegaDesk$Automaton" (62 : Nat) ({ cls := "java/lang/Integer", name := "bitCount", desc := "(I)I" } : Jvm.MethodName)) ∈ WB := List.mem_filter.mpr ⟨List.mem_append_right _ (List.mem_of_getElem? (i := 357) rfl), rfl⟩
set_option maxRecDepth 20000 in
theorem wb_358 : (Jvm.Cond.static ({ cls := "java/lang/Integer", name := "bitCount", desc := "(I)I" } : Jvm.MethodName)) ∈ WB := List.mem_filter.mpr ⟨List.mem_append_right _ (List.mem_of_getElem? (i := 358) rfl), rfl⟩
set_option maxRecDepth 20000 in
theorem wb_359 : (Jvm.Cond.code ({ cls := "java/lang/Integer", name := "bitCount", desc := "(I)I" } : Jvm.MethodName) prog_12_method_49_code (1 : Nat) (Option.some Jvm.ClassFile.FieldType.int)) ∈ WB := List.mem_filter.mpr ⟨List.mem_append_right _ (List.mem_of_getElem? (i := 359) rfl), rfl⟩
set_option maxRecDepth 20000 in
theorem wb_360 : (Jvm.Cond.constant "java/lang/Integer" (265 : Nat) (1431655765 : Int32)) ∈ WB := List.mem_filter.mpr ⟨List.mem_append_right _ (List.mem_of_getElem? (i := 360) rfl), rfl⟩
set_option maxRecDepth 20000 in
theorem wb_361 : (Jvm.Cond.constant "java/lang/Integer" (266 : Nat) (858993459 : Int32)) ∈ WB := List.mem_filter.mpr ⟨List.mem_append_right _ (List.mem_of_getElem? (i := 361) rfl), rfl⟩
set_option maxRecDepth 20000 in
theorem wb_362 : (Jvm.Cond.constant "java/lang/Integer" (267 : Nat) (252645135 : Int32)) ∈ WB := List.mem_filter.mpr ⟨List.mem_append_right _ (List.mem_of_getElem? (i := 362) rfl), rfl⟩
set_option maxRecDepth 20000 in
theorem wb_363 : (Jvm.Cond.methodLink "OmegaDesk$Automaton" (59 : Nat) ({ cls := "OmegaDesk$Automaton", name := "packed", desc := "(II)I" } : Jvm.MethodName)) ∈ WB := List.mem_filter.mpr ⟨List.mem_append_right _ (List.mem_of_getElem? (i := 363) rfl), rfl⟩
set_option maxRecDepth 20000 in
theorem wb_364 : (Jvm.Cond.static ({ cls := "OmegaDesk$Automaton", name := "packed", desc := "(II)I" } : Jvm.MethodName)) ∈ WB := List.mem_filter.mpr ⟨List.mem_append_right _ (List.mem_of_getElem? (i := 364) rfl), rfl⟩
set_option maxRecDepth 20000 in
theorem wb_365 : (Jvm.Cond.code ({ cls := "OmegaDesk$Automaton", name := "packed", desc := "(II)I" } : Jvm.MethodName) prog_2_method_13_code (4 : Nat) (Option.some Jvm.ClassFile.FieldType.int)) ∈ WB := List.mem_filter.mpr ⟨List.mem_append_right _ (List.mem_of_getElem? (i := 365) rfl), rfl⟩
set_option maxRecDepth 20000 in
theorem wb_383 : (Jvm.Cond.code ({ cls := "OmegaDesk", name := "isWord", desc := "(II)Z" } : Jvm.MethodName) prog_1_method_16_code (2 : Nat) (Option.some Jvm.ClassFile.FieldType.boolean)) ∈ WB := List.mem_filter.mpr ⟨List.mem_append_right _ (List.mem_of_getElem? (i := 383) rfl), rfl⟩
set_option maxRecDepth 20000 in
theorem wb_388 : (Jvm.Cond.code ({ cls := "OmegaDesk$Automaton", name := "passageOf", desc := "(II)I" } : Jvm.MethodName) prog_2_method_18_code (5 : Nat) (Option.some Jvm.ClassFile.FieldType.int)) ∈ WB := List.mem_filter.mpr ⟨List.mem_append_right _ (List.mem_of_getElem? (i := 388) rfl), rfl⟩
set_option maxRecDepth 20000 in
theorem wb_402 : (Jvm.Cond.code ({ cls := "OmegaDesk$Refuter", name := "refutes", desc := "(LOmegaDesk$Automaton;LOmegaDesk$Automaton;)Z" } : Jvm.MethodName) prog_5_method_2_code (11 : Nat) (Option.some Jvm.ClassFile.FieldType.boolean)) ∈ WB := List.mem_filter.mpr ⟨List.mem_append_right _ (List.mem_of_getElem? (i := 402) rfl), rfl⟩
set_option maxRecDepth 20000 in
theorem wb_403 : (Jvm.Cond.methodLink "OmegaDesk$Refuter" (34 : Nat) ({ cls := "OmegaDesk$Automaton", name := "usefulStates", desc := "()I" } : Jvm.MethodName)) ∈ WB := List.mem_filter.mpr ⟨List.mem_append_right _ (List.mem_of_getElem? (i := 403) rfl), rfl⟩
set_option maxRecDepth 20000 in
theorem wb_404 : (Jvm.Cond.methodLink "OmegaDesk$Refuter" (43 : Nat) ({ cls := "OmegaDesk$Refuter", name := "reset", desc := "()V" } : Jvm.MethodName)) ∈ WB := List.mem_filter.mpr ⟨List.mem_append_right _ (List.mem_of_getElem? (i := 404) rfl), rfl⟩
set_option maxRecDepth 20000 in
theorem wb_406 : (Jvm.Cond.instanceMethod ({ cls := "OmegaDesk$Refuter", name := "reset", desc := "()V" } : Jvm.MethodName)) ∈ WB := List.mem_filter.mpr ⟨List.mem_append_right _ (List.mem_of_getElem? (i := 406) rfl), rfl⟩
set_option maxRecDepth 20000 in
theorem wb_407 : (Jvm.Cond.code ({ cls := "OmegaDesk$Refuter", name := "reset", desc := "()V" } : Jvm.MethodName) prog_5_method_3_code (1 : Nat) (Option.none : Option Jvm.ClassFile.FieldType)) ∈ WB := List.mem_filter.mpr ⟨List.mem_append_right _ (List.mem_of_getElem? (i := 407) rfl), rfl⟩
set_option maxRecDepth 20000 in
theorem wb_408 : (Jvm.Cond.methodLink "OmegaDesk$Refuter" (69 : Nat) ({ cls := "java/util/Arrays", name := "fill", desc := "([II)V" } : Jvm.MethodName)) ∈ WB := List.mem_filter.mpr ⟨List.mem_append_right _ (List.mem_of_getElem? (i := 408) rfl), rfl⟩
set_option maxRecDepth 20000 in
theorem wb_409 : (Jvm.Cond.methodLink "OmegaDesk$Refuter" (46 : Nat) ({ cls := "OmegaDesk$Refuter", name := "findMeetings", desc := "(LOmegaDesk$Automaton;LOmegaDesk$Automaton;)V" } : Jvm.MethodName)) ∈ WB := List.mem_filter.mpr ⟨List.mem_append_right _ (List.mem_of_getElem? (i := 409) rfl), rfl⟩
set_option maxRecDepth 20000 in
theorem wb_411 : (Jvm.Cond.instanceMethod ({ cls := "OmegaDesk$Refuter", name := "findMeetings", desc := "(LOmegaDesk$Automaton;LOmegaDesk$Automaton;)V" } : Jvm.MethodName)) ∈ WB := List.mem_filter.mpr ⟨List.mem_append_right _ (List.mem_of_getElem? (i := 411) rfl), rfl⟩
set_option maxRecDepth 20000 in
theorem wb_412 : (Jvm.Cond.code ({ cls := "OmegaDesk$Refuter", name := "findMeetings", desc := "(LOmegaDesk$Automaton;LOmegaDesk$Automaton;)V" } : Jvm.MethodName) prog_5_method_4_code (8 : Nat) (Option.none : Option Jvm.ClassFile.FieldType)) ∈ WB := List.mem_filter.mpr ⟨List.mem_append_right _ (List.mem_of_getElem? (i := 412) rfl), rfl⟩
set_option maxRecDepth 20000 in
theorem wb_413 : (Jvm.Cond.methodLink "OmegaDesk$Refuter" (78 : Nat) ({ cls := "OmegaDesk$Refuter", name := "spreadMeeting", desc := "(LOmegaDesk$Automaton;LOmegaDesk$Automaton;II)Z" } : Jvm.MethodName)) ∈ WB := List.mem_filter.mpr ⟨List.mem_append_right _ (List.mem_of_getElem? (i := 413) rfl), rfl⟩
set_option maxRecDepth 20000 in
theorem wb_415 : (Jvm.Cond.instanceMethod ({ cls := "OmegaDesk$Refuter", name := "spreadMeeting", desc := "(LOmegaDesk$Automaton;LOmegaDesk$Automaton;II)Z" } : Jvm.MethodName)) ∈ WB := List.mem_filter.mpr ⟨List.mem_append_right _ (List.mem_of_getElem? (i := 415) rfl), rfl⟩
set_option maxRecDepth 20000 in
theorem wb_416 : (Jvm.Cond.code ({ cls := "OmegaDesk$Refuter", name := "spreadMeeting", desc := "(LOmegaDesk$Automaton;LOmegaDesk$Automaton;II)Z" } : Jvm.MethodName) prog_5_method_5_code (10 : Nat) (Option.some Jvm.ClassFile.FieldType.boolean)) ∈ WB := List.mem_filter.mpr ⟨List.mem_append_right _ (List.mem_of_getElem? (i := 416) rfl), rfl⟩
set_option maxRecDepth 20000 in
theorem wb_417 : (Jvm.Cond.methodLink "OmegaDesk$Refuter" (82 : Nat) ({ cls := "OmegaDesk$Automaton", name := "followersOf", desc := "(II)I" } : Jvm.MethodName)) ∈ WB := List.mem_filter.mpr ⟨List.mem_append_right _ (List.mem_of_getElem? (i := 417) rfl), rfl⟩
set_option maxRecDepth 20000 in
theorem wb_418 : (Jvm.Cond.methodLink "OmegaDesk$Refuter" (50 : Nat) ({ cls := "OmegaDesk$Automaton", name := "emptyPassage", desc := "(I)I" } : Jvm.MethodName)) ∈ WB := List.mem_filter.mpr ⟨List.mem_append_right _ (List.mem_of_getElem? (i := 418) rfl), rfl⟩
set_option maxRecDepth 20000 in
theorem wb_419 : (Jvm.Cond.methodLink "OmegaDesk$Refuter" (54 : Nat) ({ cls := "OmegaDesk$Refuter", name := "offer", desc := "(II)I" } : Jvm.MethodName)) ∈ WB := List.mem_filter.mpr ⟨List.mem_append_right _ (List.mem_of_getElem? (i := 419) rfl), rfl⟩
set_option maxRecDepth 20000 in
theorem wb_421 : (Jvm.Cond.instanceMethod ({ cls := "OmegaDesk$Refuter", name := "offer", desc := "(II)I" } : Jvm.MethodName)) ∈ WB := List.mem_filter.mpr ⟨List.mem_append_right _ (List.mem_of_getElem? (i := 421) rfl), rfl⟩
set_option maxRecDepth 20000 in
theorem wb_422 : (Jvm.Cond.code ({ cls := "OmegaDesk$Refuter", name := "offer", desc := "(II)I" } : Jvm.MethodName) prog_5_method_6_code (5 : Nat) (Option.some Jvm.ClassFile.FieldType.int)) ∈ WB := List.mem_filter.mpr ⟨List.mem_append_right _ (List.mem_of_getElem? (i := 422) rfl), rfl⟩
set_option maxRecDepth 20000 in
theorem wb_423 : (Jvm.Cond.methodLink "OmegaDesk$Refuter" (85 : Nat) ({ cls := "OmegaDesk$Refuter", name := "slotOf", desc := "(I)I" } : Jvm.MethodName)) ∈ WB := List.mem_filter.mpr ⟨List.mem_append_right _ (List.mem_of_getElem? (i := 423) rfl), rfl⟩
set_option maxRecDepth 20000 in
theorem wb_425 : (Jvm.Cond.instanceMethod ({ cls := "OmegaDesk$Refuter", name := "slotOf", desc := "(I)I" } : Jvm.MethodName)) ∈ WB := List.mem_filter.mpr ⟨List.mem_append_right _ (List.mem_of_getElem? (i := 425) rfl), rfl⟩
set_option maxRecDepth 20000 in
theorem wb_426 : (Jvm.Cond.code ({ cls := "OmegaDesk$Refuter", name := "slotOf", desc := "(I)I" } : Jvm.MethodName) prog_5_method_7_code (4 : Nat) (Option.some Jvm.ClassFile.FieldType.int)) ∈ WB := List.mem_filter.mpr ⟨List.mem_append_right _ (List.mem_of_getElem? (i := 426) rfl), rfl⟩
set_option maxRecDepth 20000 in
theorem wb_427 : (Jvm.Cond.constant "OmegaDesk$Refuter" (92 : Nat) (-1640531535 : Int32)) ∈ WB := List.mem_filter.mpr ⟨List.mem_append_right _ (List.mem_of_getElem? (i := 427) rfl), rfl⟩
set_option maxRecDepth 20000 in
theorem wb_428 : (Jvm.Cond.methodLink "OmegaDesk$Refuter" (88 : Nat) ({ cls := "OmegaDesk$Refuter", name := "enqueue", desc := "(I)V" } : Jvm.MethodName)) ∈ WB := List.mem_filter.mpr ⟨List.mem_append_right _ (List.mem_of_getElem? (i := 428) rfl), rfl⟩
set_option maxRecDepth 20000 in
theorem wb_430 : (Jvm.Cond.instanceMethod ({ cls := "OmegaDesk$Refuter", name := "enqueue", desc := "(I)V" } : Jvm.MethodName)) ∈ WB := List.mem_filter.mpr ⟨List.mem_append_right _ (List.mem_of_getElem? (i := 430) rfl), rfl⟩
set_option maxRecDepth 20000 in
theorem wb_431 : (Jvm.Cond.code ({ cls := "OmegaDesk$Refuter", name := "enqueue", desc := "(I)V" } : Jvm.MethodName) prog_5_method_8_code (2 : Nat) (Option.none : Option Jvm.ClassFile.FieldType)) ∈ WB := List.mem_filter.mpr ⟨List.mem_append_right _ (List.mem_of_getElem? (i := 431) rfl), rfl⟩
set_option maxRecDepth 20000 in
theorem wb_432 : (Jvm.Cond.constant "OmegaDesk$Refuter" (58 : Nat) (32768 : Int32)) ∈ WB := List.mem_filter.mpr ⟨List.mem_append_right _ (List.mem_of_getElem? (i := 432) rfl), rfl⟩
set_option maxRecDepth 20000 in
theorem wb_433 : (Jvm.Cond.methodLink "OmegaDesk$Refuter" (59 : Nat) ({ cls := "OmegaDesk$Refuter", name := "nextQueued", desc := "()I" } : Jvm.MethodName)) ∈ WB := List.mem_filter.mpr ⟨List.mem_append_right _ (List.mem_of_getElem? (i := 433) rfl), rfl⟩
set_option maxRecDepth 20000 in
theorem wb_435 : (Jvm.Cond.instanceMethod ({ cls := "OmegaDesk$Refuter", name := "nextQueued", desc := "()I" } : Jvm.MethodName)) ∈ WB := List.mem_filter.mpr ⟨List.mem_append_right _ (List.mem_of_getElem? (i := 435) rfl), rfl⟩
set_option maxRecDepth 20000 in
theorem wb_436 : (Jvm.Cond.code ({ cls := "OmegaDesk$Refuter", name := "nextQueued", desc := "()I" } : Jvm.MethodName) prog_5_method_9_code (2 : Nat) (Option.some Jvm.ClassFile.FieldType.int)) ∈ WB := List.mem_filter.mpr ⟨List.mem_append_right _ (List.mem_of_getElem? (i := 436) rfl), rfl⟩
set_option maxRecDepth 20000 in
theorem wb_437 : (Jvm.Cond.methodLink "OmegaDesk$Refuter" (62 : Nat) ({ cls := "OmegaDesk$Automaton", name := "longerPassage", desc := "(II)I" } : Jvm.MethodName)) ∈ WB := List.mem_filter.mpr ⟨List.mem_append_right _ (List.mem_of_getElem? (i := 437) rfl), rfl⟩
set_option maxRecDepth 20000 in
theorem wb_438 : (Jvm.Cond.methodLink "OmegaDesk$Refuter" (65 : Nat) ({ cls := "OmegaDesk$Refuter", name := "refutesWith", desc := "(II)Z" } : Jvm.MethodName)) ∈ WB := List.mem_filter.mpr ⟨List.mem_append_right _ (List.mem_of_getElem? (i := 438) rfl), rfl⟩
set_option maxRecDepth 20000 in
theorem wb_440 : (Jvm.Cond.instanceMethod ({ cls := "OmegaDesk$Refuter", name := "refutesWith", desc := "(II)Z" } : Jvm.MethodName)) ∈ WB := List.mem_filter.mpr ⟨List.mem_append_right _ (List.mem_of_getElem? (i := 440) rfl), rfl⟩
set_option maxRecDepth 20000 in
theorem wb_441 : (Jvm.Cond.code ({ cls := "OmegaDesk$Refuter", name := "refutesWith", desc := "(II)Z" } : Jvm.MethodName) prog_5_method_10_code (6 : Nat) (Option.some Jvm.ClassFile.FieldType.boolean)) ∈ WB := List.mem_filter.mpr ⟨List.mem_append_right _ (List.mem_of_getElem? (i := 441) rfl), rfl⟩
set_option maxRecDepth 20000 in
theorem wb_442 : (Jvm.Cond.methodLink "OmegaDesk$Refuter" (93 : Nat) ({ cls := "OmegaDesk$Passage", name := "goodEnds", desc := "(II)I" } : Jvm.MethodName)) ∈ WB := List.mem_filter.mpr ⟨List.mem_append_right _ (List.mem_of_getElem? (i := 442) rfl), rfl⟩
set_option maxRecDepth 20000 in
theorem wb_443 : (Jvm.Cond.methodLink "OmegaDesk$Refuter" (98 : Nat) ({ cls := "OmegaDesk$Passage", name := "takenRepeated", desc := "(I)I" } : Jvm.MethodName)) ∈ WB := List.mem_filter.mpr ⟨List.mem_append_right _ (List.mem_of_getElem? (i := 443) rfl), rfl⟩
set_option maxRecDepth 20000 in
theorem wb_447 : (Jvm.Cond.code ({ cls := "OmegaDesk$LassoFinder", name := "forget", desc := "()V" } : Jvm.MethodName) prog_3_method_2_code (1 : Nat) (Option.none : Option Jvm.ClassFile.FieldType)) ∈ WB := List.mem_filter.mpr ⟨List.mem_append_right _ (List.mem_of_getElem? (i := 447) rfl), rfl⟩
set_option maxRecDepth 20000 in
theorem wb_451 : (Jvm.Cond.code ({ cls := "OmegaDesk$LassoFinder", name := "search", desc := "(LOmegaDesk$Automaton;LOmegaDesk$Automaton;)V" } : Jvm.MethodName) prog_3_method_3_code (5 : Nat) (Option.none : Option Jvm.ClassFile.FieldType)) ∈ WB := List.mem_filter.mpr ⟨List.mem_append_right _ (List.mem_of_getElem? (i := 451) rfl), rfl⟩
set_option maxRecDepth 20000 in
theorem wb_452 : (Jvm.Cond.methodLink "OmegaDesk$LassoFinder" (38 : Nat) ({ cls := "OmegaDesk$WordTable", name := "begin", desc := "(LOmegaDesk$Automaton;)V" } : Jvm.MethodName)) ∈ WB := List.mem_filter.mpr ⟨List.mem_append_right _ (List.mem_of_getElem? (i := 452) rfl), rfl⟩
set_option maxRecDepth 20000 in
theorem wb_453 : (Jvm.Cond.instanceMethod ({ cls := "OmegaDesk$WordTable", name := "begin", desc := "(LOmegaDesk$Automaton;)V" } : Jvm.MethodName)) ∈ WB := List.mem_filter.mpr ⟨List.mem_append_right _ (List.mem_of_getElem? (i := 453) rfl), rfl⟩
set_option maxRecDepth 20000 in
theorem wb_454 : (Jvm.Cond.selects "OmegaDesk$WordTable" ({ cls := "OmegaDesk$WordTable", name := "begin", desc := "(LOmegaDesk$Automaton;)V" } : Jvm.MethodName) ({ cls := "OmegaDesk$WordTable", name := "begin", desc := "(LOmegaDesk$Automaton;)V" } : Jvm.MethodName)) ∈ WB := List.mem_filter.mpr ⟨List.mem_append_right _ (List.mem_of_getElem? (i := 454) rfl), rfl⟩
set_option maxRecDepth 20000 in
theorem wb_455 : (Jvm.Cond.code ({ cls := "OmegaDesk$WordTable", name := "begin", desc := "(LOmegaDesk$Automaton;)V" } : Jvm.MethodName) prog_6_method_2_code (2 : Nat) (Option.none : Option Jvm.ClassFile.FieldType)) ∈ WB := List.mem_filter.mpr ⟨List.mem_append_right _ (List.mem_of_getElem? (i := 455) rfl), rfl⟩
set_option maxRecDepth 20000 in
theorem wb_456 : (Jvm.Cond.methodLink "OmegaDesk$WordTable" (24 : Nat) ({ cls := "OmegaDesk$Automaton", name := "emptyPassage", desc := "(I)I" } : Jvm.MethodName)) ∈ WB := List.mem_filter.mpr ⟨List.mem_append_right _ (List.mem_of_getElem? (i := 456) rfl), rfl⟩
set_option maxRecDepth 20000 in
theorem wb_457 : (Jvm.Cond.methodLink "OmegaDesk$LassoFinder" (42 : Nat) ({ cls := "OmegaDesk$WordTable", name := "addWords", desc := "(LOmegaDesk$Automaton;I)V" } : Jvm.MethodName)) ∈ WB := List.mem_filter.mpr ⟨List.mem_append_right _ (List.mem_of_getElem? (i := 457) rfl), rfl⟩
set_option maxRecDepth 20000 in
theorem wb_458 : (Jvm.Cond.instanceMethod ({ cls := "OmegaDesk$WordTable", name := "addWords", desc := "(LOmegaDesk$Automaton;I)V" } : Jvm.MethodName)) ∈ WB := List.mem_filter.mpr ⟨List.mem_append_right _ (List.mem_of_getElem? (i := 458) rfl), rfl⟩
set_option maxRecDepth 20000 in
theorem wb_459 : (Jvm.Cond.selects "OmegaDesk$WordTable" ({ cls := "OmegaDesk$WordTable", name := "addWords", desc := "(LOmegaDesk$Automaton;I)V" } : Jvm.MethodName) ({ cls := "OmegaDesk$WordTable", name := "addWords", desc := "(LOmegaDesk$Automaton;I)V" } : Jvm.MethodName)) ∈ WB := List.mem_filter.mpr ⟨List.mem_append_right _ (List.mem_of_getElem? (i := 459) rfl), rfl⟩
set_option maxRecDepth 20000 in
theorem wb_460 : (Jvm.Cond.code ({ cls := "OmegaDesk$WordTable", name := "addWords", desc := "(LOmegaDesk$Automaton;I)V" } : Jvm.MethodName) prog_6_method_3_code (5 : Nat) (Option.none : Option Jvm.ClassFile.FieldType)) ∈ WB := List.mem_filter.mpr ⟨List.mem_append_right _ (List.mem_of_getElem? (i := 460) rfl), rfl⟩
set_option maxRecDepth 20000 in
theorem wb_461 : (Jvm.Cond.methodLink "OmegaDesk$WordTable" (28 : Nat) ({ cls := "OmegaDesk$Automaton", name := "longerPassage", desc := "(II)I" } : Jvm.MethodName)) ∈ WB := List.mem_filter.mpr ⟨List.mem_append_right _ (List.mem_of_getElem? (i := 461) rfl), rfl⟩
set_option maxRecDepth 20000 in
theorem wb_462 : (Jvm.Cond.methodLink "OmegaDesk$WordTable" (32 : Nat) ({ cls := "OmegaDesk$Passage", name := "takenRepeated", desc := "(I)I" } : Jvm.MethodName)) ∈ WB := List.mem_filter.mpr ⟨List.mem_append_right _ (List.mem_of_getElem? (i := 462) rfl), rfl⟩
set_option maxRecDepth 20000 in
theorem wb_463 : (Jvm.Cond.methodLink "OmegaDesk$LassoFinder" (46 : Nat) ({ cls := "OmegaDesk$LassoFinder", name := "searchSplit", desc := "(II)V" } : Jvm.MethodName)) ∈ WB := List.mem_filter.mpr ⟨List.mem_append_right _ (List.mem_of_getElem? (i := 463) rfl), rfl⟩
set_option maxRecDepth 20000 in
theorem wb_465 : (Jvm.Cond.instanceMethod ({ cls := "OmegaDesk$LassoFinder", name := "searchSplit", desc := "(II)V" } : Jvm.MethodName)) ∈ WB := List.mem_filter.mpr ⟨List.mem_append_right _ (List.mem_of_getElem? (i := 465) rfl), rfl⟩
set_option maxRecDepth 20000 in
theorem wb_466 : (Jvm.Cond.code ({ cls := "OmegaDesk$LassoFinder", name := "searchSplit", desc := "(II)V" } : Jvm.MethodName) prog_3_method_4_code (7 : Nat) (Option.none : Option Jvm.ClassFile.FieldType)) ∈ WB := List.mem_filter.mpr ⟨List.mem_append_right _ (List.mem_of_getElem? (i := 466) rfl), rfl⟩
set_option maxRecDepth 20000 in
theorem wb_467 : (Jvm.Cond.methodLink "OmegaDesk$LassoFinder" (50 : Nat) ({ cls := "OmegaDesk$WordTable", name := "takesLasso", desc := "(II)Z" } : Jvm.MethodName)) ∈ WB := List.mem_filter.mpr ⟨List.mem_append_right _ (List.mem_of_getElem? (i := 467) rfl), rfl⟩
set_option maxRecDepth 20000 in
theorem wb_468 : (Jvm.Cond.instanceMethod ({ cls := "OmegaDesk$WordTable", name := "takesLasso", desc := "(II)Z" } : Jvm.MethodName)) ∈ WB := List.mem_filter.mpr ⟨List.mem_append_right _ (List.mem_of_getElem? (i := 468) rfl), rfl⟩
set_option maxRecDepth 20000 in
theorem wb_469 : (Jvm.Cond.selects "OmegaDesk$WordTable" ({ cls := "OmegaDesk$WordTable", name := "takesLasso", desc := "(II)Z" } : Jvm.MethodName) ({ cls := "OmegaDesk$WordTable", name := "takesLasso", desc := "(II)Z" } : Jvm.MethodName)) ∈ WB := List.mem_filter.mpr ⟨List.mem_append_right _ (List.mem_of_getElem? (i := 469) rfl), rfl⟩
set_option maxRecDepth 20000 in
theorem wb_470 : (Jvm.Cond.code ({ cls := "OmegaDesk$WordTable", name := "takesLasso", desc := "(II)Z" } : Jvm.MethodName) prog_6_method_4_code (3 : Nat) (Option.some Jvm.ClassFile.FieldType.boolean)) ∈ WB := List.mem_filter.mpr ⟨List.mem_append_right _ (List.mem_of_getElem? (i := 470) rfl), rfl⟩
set_option maxRecDepth 20000 in
theorem wb_471 : (Jvm.Cond.methodLink "OmegaDesk$WordTable" (36 : Nat) ({ cls := "OmegaDesk$Passage", name := "fromStart", desc := "(I)I" } : Jvm.MethodName)) ∈ WB := List.mem_filter.mpr ⟨List.mem_append_right _ (List.mem_of_getElem? (i := 471) rfl), rfl⟩
set_option maxRecDepth 20000 in
theorem wb_525 : (Jvm.Cond.fieldLink "OmegaDeskModel" (41 : Nat) "OmegaDeskModel" "thrown" "I") ∈ WB := List.mem_filter.mpr ⟨List.mem_append_right _ (List.mem_of_getElem? (i := 525) rfl), rfl⟩
set_option maxRecDepth 20000 in
theorem wb_526 : (Jvm.Cond.fieldLink "OmegaDeskModel" (7 : Nat) "OmegaDeskModel" "to" "[I") ∈ WB := List.mem_filter.mpr ⟨List.mem_append_right _ (List.mem_of_getElem? (i := 526) rfl), rfl⟩
set_option maxRecDepth 20000 in
theorem wb_527 : (Jvm.Cond.fieldLink "OmegaDeskModel" (13 : Nat) "OmegaDeskModel" "good" "[I") ∈ WB := List.mem_filter.mpr ⟨List.mem_append_right _ (List.mem_of_getElem? (i := 527) rfl), rfl⟩
set_option maxRecDepth 20000 in
theorem wb_528 : (Jvm.Cond.fieldLink "OmegaDeskModel" (16 : Nat) "OmegaDeskModel" "size" "[I") ∈ WB := List.mem_filter.mpr ⟨List.mem_append_right _ (List.mem_of_getElem? (i := 528) rfl), rfl⟩
set_option maxRecDepth 20000 in
theorem wb_529 : (Jvm.Cond.fieldLink "OmegaDeskModel" (132 : Nat) "OmegaDeskModel" "found" "Z") ∈ WB := List.mem_filter.mpr ⟨List.mem_append_right _ (List.mem_of_getElem? (i := 529) rfl), rfl⟩
set_option maxRecDepth 20000 in
theorem wb_530 : (Jvm.Cond.fieldLink "OmegaDeskModel" (19 : Nat) "OmegaDeskModel" "witness" "[I") ∈ WB := List.mem_filter.mpr ⟨List.mem_append_right _ (List.mem_of_getElem? (i := 530) rfl), rfl⟩
set_option maxRecDepth 20000 in
theorem wb_531 : (Jvm.Cond.fieldLink "OmegaDeskModel" (22 : Nat) "OmegaDeskModel" "seen" "[J") ∈ WB := List.mem_filter.mpr ⟨List.mem_append_right _ (List.mem_of_getElem? (i := 531) rfl), rfl⟩
set_option maxRecDepth 20000 in
theorem wb_532 : (Jvm.Cond.fieldLink "OmegaDeskModel" (26 : Nat) "OmegaDeskModel" "fresh" "[J") ∈ WB := List.mem_filter.mpr ⟨List.mem_append_right _ (List.mem_of_getElem? (i := 532) rfl), rfl⟩
set_option maxRecDepth 20000 in
theorem wb_533 : (Jvm.Cond.fieldLink "OmegaDeskModel" (29 : Nat) "OmegaDeskModel" "coming" "[J") ∈ WB := List.mem_filter.mpr ⟨List.mem_append_right _ (List.mem_of_getElem? (i := 533) rfl), rfl⟩
set_option maxRecDepth 20000 in
theorem wb_534 : (Jvm.Cond.fieldLink "OmegaDeskModel" (32 : Nat) "OmegaDeskModel" "digit" "[I") ∈ WB := List.mem_filter.mpr ⟨List.mem_append_right _ (List.mem_of_getElem? (i := 534) rfl), rfl⟩
set_option maxRecDepth 20000 in
theorem wb_535 : (Jvm.Cond.fieldLink "OmegaDeskModel" (35 : Nat) "OmegaDeskModel" "after" "[I") ∈ WB := List.mem_filter.mpr ⟨List.mem_append_right _ (List.mem_of_getElem? (i := 535) rfl), rfl⟩
set_option maxRecDepth 20000 in
theorem wb_536 : (Jvm.Cond.fieldLink "OmegaDeskModel" (38 : Nat) "OmegaDeskModel" "beginnings" "[I") ∈ WB := List.mem_filter.mpr ⟨List.mem_append_right _ (List.mem_of_getElem? (i := 536) rfl), rfl⟩
set_option maxRecDepth 20000 in
theorem wb_566 : (Jvm.Cond.code ({ cls := "OmegaDeskModel", name := "thrown", desc := "()I" } : Jvm.MethodName) prog_8_method_2_code (1 : Nat) (Option.some Jvm.ClassFile.FieldType.int)) ∈ WB := List.mem_filter.mpr ⟨List.mem_append_right _ (List.mem_of_getElem? (i := 566) rfl), rfl⟩
set_option maxRecDepth 20000 in
theorem wb_570 : (Jvm.Cond.code ({ cls := "OmegaDeskModel", name := "state", desc := "(IZ)I" } : Jvm.MethodName) prog_8_method_6_code (3 : Nat) (Option.some Jvm.ClassFile.FieldType.int)) ∈ WB := List.mem_filter.mpr ⟨List.mem_append_right _ (List.mem_of_getElem? (i := 570) rfl), rfl⟩
set_option maxRecDepth 20000 in
theorem wb_571 : (Jvm.Cond.methodLink "OmegaDeskModel" (45 : Nat) ({ cls := "OmegaDeskModel", name := "out", desc := "(II)Z" } : Jvm.MethodName)) ∈ WB := List.mem_filter.mpr ⟨List.mem_append_right _ (List.mem_of_getElem? (i := 571) rfl), rfl⟩
set_option maxRecDepth 20000 in
theorem wb_572 : (Jvm.Cond.static ({ cls := "OmegaDeskModel", name := "out", desc := "(II)Z" } : Jvm.MethodName)) ∈ WB := List.mem_filter.mpr ⟨List.mem_append_right _ (List.mem_of_getElem? (i := 572) rfl), rfl⟩
set_option maxRecDepth 20000 in
theorem wb_573 : (Jvm.Cond.code ({ cls := "OmegaDeskModel", name := "out", desc := "(II)Z" } : Jvm.MethodName) prog_8_method_3_code (2 : Nat) (Option.some Jvm.ClassFile.FieldType.boolean)) ∈ WB := List.mem_filter.mpr ⟨List.mem_append_right _ (List.mem_of_getElem? (i := 573) rfl), rfl⟩
set_option maxRecDepth 20000 in
theorem wb_574 : (Jvm.Cond.methodLink "OmegaDeskModel" (49 : Nat) ({ cls := "OmegaDeskModel", name := "add", desc := "(IZ)V" } : Jvm.MethodName)) ∈ WB := List.mem_filter.mpr ⟨List.mem_append_right _ (List.mem_of_getElem? (i := 574) rfl), rfl⟩
set_option maxRecDepth 20000 in
theorem wb_576 : (Jvm.Cond.instanceMethod ({ cls := "OmegaDeskModel", name := "add", desc := "(IZ)V" } : Jvm.MethodName)) ∈ WB := List.mem_filter.mpr ⟨List.mem_append_right _ (List.mem_of_getElem? (i := 576) rfl), rfl⟩
set_option maxRecDepth 20000 in
theorem wb_577 : (Jvm.Cond.code ({ cls := "OmegaDeskModel", name := "add", desc := "(IZ)V" } : Jvm.MethodName) prog_8_method_5_code (3 : Nat) (Option.none : Option Jvm.ClassFile.FieldType)) ∈ WB := List.mem_filter.mpr ⟨List.mem_append_right _ (List.mem_of_getElem? (i := 577) rfl), rfl⟩
set_option maxRecDepth 20000 in
theorem wb_581 : (Jvm.Cond.code ({ cls := "OmegaDeskModel", name := "edge", desc := "(IIII)Z" } : Jvm.MethodName) prog_8_method_8_code (7 : Nat) (Option.some Jvm.ClassFile.FieldType.boolean)) ∈ WB := List.mem_filter.mpr ⟨List.mem_append_right _ (List.mem_of_getElem? (i := 581) rfl), rfl⟩
set_option maxRecDepth 20000 in
theorem wb_582 : (Jvm.Cond.methodLink "OmegaDeskModel" (53 : Nat) ({ cls := "OmegaDeskModel", name := "isEdge", desc := "(IIII)Z" } : Jvm.MethodName)) ∈ WB := List.mem_filter.mpr ⟨List.mem_append_right _ (List.mem_of_getElem? (i := 582) rfl), rfl⟩
set_option maxRecDepth 20000 in
theorem wb_584 : (Jvm.Cond.instanceMethod ({ cls := "OmegaDeskModel", name := "isEdge", desc := "(IIII)Z" } : Jvm.MethodName)) ∈ WB := List.mem_filter.mpr ⟨List.mem_append_right _ (List.mem_of_getElem? (i := 584) rfl), rfl⟩
set_option maxRecDepth 20000 in
theorem wb_585 : (Jvm.Cond.code ({ cls := "OmegaDeskModel", name := "isEdge", desc := "(IIII)Z" } : Jvm.MethodName) prog_8_method_7_code (5 : Nat) (Option.some Jvm.ClassFile.FieldType.boolean)) ∈ WB := List.mem_filter.mpr ⟨List.mem_append_right _ (List.mem_of_getElem? (i := 585) rfl), rfl⟩
set_option maxRecDepth 20000 in
theorem wb_589 : (Jvm.Cond.code ({ cls := "OmegaDeskModel", name := "clear", desc := "(I)V" } : Jvm.MethodName) prog_8_method_9_code (2 : Nat) (Option.none : Option Jvm.ClassFile.FieldType)) ∈ WB := List.mem_filter.mpr ⟨List.mem_append_right _ (List.mem_of_getElem? (i := 589) rfl), rfl⟩
set_option maxRecDepth 20000 in
theorem wb_593 : (Jvm.Cond.code ({ cls := "OmegaDeskModel", name := "unite", desc := "(III)I" } : Jvm.MethodName) prog_8_method_11_code (5 : Nat) (Option.some Jvm.ClassFile.FieldType.int)) ∈ WB := List.mem_filter.mpr ⟨List.mem_append_right _ (List.mem_of_getElem? (i := 593) rfl), rfl⟩
set_option maxRecDepth 20000 in
theorem wb_594 : (Jvm.Cond.methodLink "OmegaDeskModel" (57 : Nat) ({ cls := "OmegaDeskModel", name := "append", desc := "(II)V" } : Jvm.MethodName)) ∈ WB := List.mem_filter.mpr ⟨List.mem_append_right _ (List.mem_of_getElem? (i := 594) rfl), rfl⟩
set_option maxRecDepth 20000 in
theorem wb_596 : (Jvm.Cond.instanceMethod ({ cls := "OmegaDeskModel", name := "append", desc := "(II)V" } : Jvm.MethodName)) ∈ WB := List.mem_filter.mpr ⟨List.mem_append_right _ (List.mem_of_getElem? (i := 596) rfl), rfl⟩
set_option maxRecDepth 20000 in
theorem wb_597 : (Jvm.Cond.code ({ cls := "OmegaDeskModel", name := "append", desc := "(II)V" } : Jvm.MethodName) prog_8_method_10_code (7 : Nat) (Option.none : Option Jvm.ClassFile.FieldType)) ∈ WB := List.mem_filter.mpr ⟨List.mem_append_right _ (List.mem_of_getElem? (i := 597) rfl), rfl⟩
set_option maxRecDepth 20000 in
theorem wb_601 : (Jvm.Cond.code ({ cls := "OmegaDeskModel", name := "trim", desc := "(I)I" } : Jvm.MethodName) prog_8_method_15_code (11 : Nat) (Option.some Jvm.ClassFile.FieldType.int)) ∈ WB := List.mem_filter.mpr ⟨List.mem_append_right _ (List.mem_of_getElem? (i := 601) rfl), rfl⟩
set_option maxRecDepth 20000 in
theorem wb_602 : (Jvm.Cond.methodLink "OmegaDeskModel" (68 : Nat) ({ cls := "OmegaDeskModel", name := "living", desc := "(I)I" } : Jvm.MethodName)) ∈ WB := List.mem_filter.mpr ⟨List.mem_append_right _ (List.mem_of_getElem? (i := 602) rfl), rfl⟩
set_option maxRecDepth 20000 in
theorem wb_604 : (Jvm.Cond.instanceMethod ({ cls := "OmegaDeskModel", name := "living", desc := "(I)I" } : Jvm.MethodName)) ∈ WB := List.mem_filter.mpr ⟨List.mem_append_right _ (List.mem_of_getElem? (i := 604) rfl), rfl⟩
set_option maxRecDepth 20000 in
theorem wb_605 : (Jvm.Cond.code ({ cls := "OmegaDeskModel", name := "living", desc := "(I)I" } : Jvm.MethodName) prog_8_method_14_code (4 : Nat) (Option.some Jvm.ClassFile.FieldType.int)) ∈ WB := List.mem_filter.mpr ⟨List.mem_append_right _ (List.mem_of_getElem? (i := 605) rfl), rfl⟩
set_option maxRecDepth 20000 in
theorem wb_606 : (Jvm.Cond.methodLink "OmegaDeskModel" (65 : Nat) ({ cls := "OmegaDeskModel", name := "alive", desc := "(II)Z" } : Jvm.MethodName)) ∈ WB := List.mem_filter.mpr ⟨List.mem_append_right _ (List.mem_of_getElem? (i := 606) rfl), rfl⟩
set_option maxRecDepth 20000 in
theorem wb_608 : (Jvm.Cond.instanceMethod ({ cls := "OmegaDeskModel", name := "alive", desc := "(II)Z" } : Jvm.MethodName)) ∈ WB := List.mem_filter.mpr ⟨List.mem_append_right _ (List.mem_of_getElem? (i := 608) rfl), rfl⟩
set_option maxRecDepth 20000 in
theorem wb_609 : (Jvm.Cond.code ({ cls := "OmegaDeskModel", name := "alive", desc := "(II)Z" } : Jvm.MethodName) prog_8_method_13_code (7 : Nat) (Option.some Jvm.ClassFile.FieldType.boolean)) ∈ WB := List.mem_filter.mpr ⟨List.mem_append_right _ (List.mem_of_getElem? (i := 609) rfl), rfl⟩
set_option maxRecDepth 20000 in
theorem wb_610 : (Jvm.Cond.methodLink "OmegaDeskModel" (61 : Nat) ({ cls := "OmegaDeskModel", name := "ahead", desc := "(II)I" } : Jvm.MethodName)) ∈ WB := List.mem_filter.mpr ⟨List.mem_append_right _ (List.mem_of_getElem? (i := 610) rfl), rfl⟩
set_option maxRecDepth 20000 in
theorem wb_612 : (Jvm.Cond.instanceMethod ({ cls := "OmegaDeskModel", name := "ahead", desc := "(II)I" } : Jvm.MethodName)) ∈ WB := List.mem_filter.mpr ⟨List.mem_append_right _ (List.mem_of_getElem? (i := 612) rfl), rfl⟩
set_option maxRecDepth 20000 in
theorem wb_613 : (Jvm.Cond.code ({ cls := "OmegaDeskModel", name := "ahead", desc := "(II)I" } : Jvm.MethodName) prog_8_method_12_code (6 : Nat) (Option.some Jvm.ClassFile.FieldType.int)) ∈ WB := List.mem_filter.mpr ⟨List.mem_append_right _ (List.mem_of_getElem? (i := 613) rfl), rfl⟩
set_option maxRecDepth 20000 in
theorem wb_617 : (Jvm.Cond.code ({ cls := "OmegaDeskModel", name := "empty", desc := "(I)Z" } : Jvm.MethodName) prog_8_method_16_code (2 : Nat) (Option.some Jvm.ClassFile.FieldType.boolean)) ∈ WB := List.mem_filter.mpr ⟨List.mem_append_right _ (List.mem_of_getElem? (i := 617) rfl), rfl⟩
set_option maxRecDepth 20000 in
theorem wb_621 : (Jvm.Cond.code ({ cls := "OmegaDeskModel", name := "takes", desc := "(IIIII)Z" } : Jvm.MethodName) prog_8_method_22_code (6 : Nat) (Option.some Jvm.ClassFile.FieldType.boolean)) ∈ WB := List.mem_filter.mpr ⟨List.mem_append_right _ (List.mem_of_getElem? (i := 621) rfl), rfl⟩
set_option maxRecDepth 20000 in
theorem wb_622 : (Jvm.Cond.methodLink "OmegaDeskModel" (85 : Nat) ({ cls := "OmegaDeskModel", name := "isWord", desc := "(III)Z" } : Jvm.MethodName)) ∈ WB := List.mem_filter.mpr ⟨List.mem_append_right _ (List.mem_of_getElem? (i := 622) rfl), rfl⟩
set_option maxRecDepth 20000 in
theorem wb_623 : (Jvm.Cond.static ({ cls := "OmegaDeskModel", name := "isWord", desc := "(III)Z" } : Jvm.MethodName)) ∈ WB := List.mem_filter.mpr ⟨List.mem_append_right _ (List.mem_of_getElem? (i := 623) rfl), rfl⟩
set_option maxRecDepth 20000 in
theorem wb_624 : (Jvm.Cond.code ({ cls := "OmegaDeskModel", name := "isWord", desc := "(III)Z" } : Jvm.MethodName) prog_8_method_21_code (3 : Nat) (Option.some Jvm.ClassFile.FieldType.boolean)) ∈ WB := List.mem_filter.mpr ⟨List.mem_append_right _ (List.mem_of_getElem? (i := 624) rfl), rfl⟩
set_option maxRecDepth 20000 in
theorem wb_625 : (Jvm.Cond.methodLink "OmegaDeskModel" (89 : Nat) ({ cls := "OmegaDeskModel", name := "lasso", desc := "(IIIII)Z" } : Jvm.MethodName)) ∈ WB := List.mem_filter.mpr ⟨List.mem_append_right _ (List.mem_of_getElem? (i := 625) rfl), rfl⟩
set_option maxRecDepth 20000 in
theorem wb_627 : (Jvm.Cond.instanceMethod ({ cls := "OmegaDeskModel", name := "lasso", desc := "(IIIII)Z" } : Jvm.MethodName)) ∈ WB := List.mem_filter.mpr ⟨List.mem_append_right _ (List.mem_of_getElem? (i := 627) rfl), rfl⟩
set_option maxRecDepth 20000 in
theorem wb_628 : (Jvm.Cond.code ({ cls := "OmegaDeskModel", name := "lasso", desc := "(IIIII)Z" } : Jvm.MethodName) prog_8_method_20_code (13 : Nat) (Option.some Jvm.ClassFile.FieldType.boolean)) ∈ WB := List.mem_filter.mpr ⟨List.mem_append_right _ (List.mem_of_getElem? (i := 628) rfl), rfl⟩
set_option maxRecDepth 20000 in
theorem wb_629 : (Jvm.Cond.methodLink "OmegaDeskModel" (82 : Nat) ({ cls := "OmegaDeskModel", name := "allBehind", desc := "(IJIIII)J" } : Jvm.MethodName)) ∈ WB := List.mem_filter.mpr ⟨List.mem_append_right _ (List.mem_of_getElem? (i := 629) rfl), rfl⟩
set_option maxRecDepth 20000 in
theorem wb_631 : (Jvm.Cond.instanceMethod ({ cls := "OmegaDeskModel", name := "allBehind", desc := "(IJIIII)J" } : Jvm.MethodName)) ∈ WB := List.mem_filter.mpr ⟨List.mem_append_right _ (List.mem_of_getElem? (i := 631) rfl), rfl⟩
set_option maxRecDepth 20000 in
theorem wb_632 : (Jvm.Cond.code ({ cls := "OmegaDeskModel", name := "allBehind", desc := "(IJIIII)J" } : Jvm.MethodName) prog_8_method_19_code (12 : Nat) (Option.some Jvm.ClassFile.FieldType.long)) ∈ WB := List.mem_filter.mpr ⟨List.mem_append_right _ (List.mem_of_getElem? (i := 632) rfl), rfl⟩
set_option maxRecDepth 20000 in
theorem wb_633 : (Jvm.Cond.methodLink "OmegaDeskModel" (78 : Nat) ({ cls := "OmegaDeskModel", name := "behind", desc := "(IJIIII)J" } : Jvm.MethodName)) ∈ WB := List.mem_filter.mpr ⟨List.mem_append_right _ (List.mem_of_getElem? (i := 633) rfl), rfl⟩
set_option maxRecDepth 20000 in
theorem wb_635 : (Jvm.Cond.instanceMethod ({ cls := "OmegaDeskModel", name := "behind", desc := "(IJIIII)J" } : Jvm.MethodName)) ∈ WB := List.mem_filter.mpr ⟨List.mem_append_right _ (List.mem_of_getElem? (i := 635) rfl), rfl⟩
set_option maxRecDepth 20000 in
theorem wb_636 : (Jvm.Cond.code ({ cls := "OmegaDeskModel", name := "behind", desc := "(IJIIII)J" } : Jvm.MethodName) prog_8_method_18_code (15 : Nat) (Option.some Jvm.ClassFile.FieldType.long)) ∈ WB := List.mem_filter.mpr ⟨List.mem_append_right _ (List.mem_of_getElem? (i := 636) rfl), rfl⟩
set_option maxRecDepth 20000 in
theorem wb_637 : (Jvm.Cond.constantLong "OmegaDeskModel" (72 : Nat) (15 : Int64)) ∈ WB := List.mem_filter.mpr ⟨List.mem_append_right _ (List.mem_of_getElem? (i := 637) rfl), rfl⟩
set_option maxRecDepth 20000 in
theorem wb_638 : (Jvm.Cond.methodLink "OmegaDeskModel" (74 : Nat) ({ cls := "OmegaDeskModel", name := "letter", desc := "(IIIII)I" } : Jvm.MethodName)) ∈ WB := List.mem_filter.mpr ⟨List.mem_append_right _ (List.mem_of_getElem? (i := 638) rfl), rfl⟩
set_option maxRecDepth 20000 in
theorem wb_639 : (Jvm.Cond.static ({ cls := "OmegaDeskModel", name := "letter", desc := "(IIIII)I" } : Jvm.MethodName)) ∈ WB := List.mem_filter.mpr ⟨List.mem_append_right _ (List.mem_of_getElem? (i := 639) rfl), rfl⟩
set_option maxRecDepth 20000 in
theorem wb_640 : (Jvm.Cond.code ({ cls := "OmegaDeskModel", name := "letter", desc := "(IIIII)I" } : Jvm.MethodName) prog_8_method_17_code (5 : Nat) (Option.some Jvm.ClassFile.FieldType.int)) ∈ WB := List.mem_filter.mpr ⟨List.mem_append_right _ (List.mem_of_getElem? (i := 640) rfl), rfl⟩
set_option maxRecDepth 20000 in
theorem wb_644 : (Jvm.Cond.code ({ cls := "OmegaDeskModel", name := "included", desc := "(II)Z" } : Jvm.MethodName) prog_8_method_36_code (4 : Nat) (Option.some Jvm.ClassFile.FieldType.boolean)) ∈ WB := List.mem_filter.mpr ⟨List.mem_append_right _ (List.mem_of_getElem? (i := 644) rfl), rfl⟩
set_option maxRecDepth 20000 in
theorem wb_645 : (Jvm.Cond.methodLink "OmegaDeskModel" (136 : Nat) ({ cls := "OmegaDeskModel", name := "differs", desc := "(II)Z" } : Jvm.MethodName)) ∈ WB := List.mem_filter.mpr ⟨List.mem_append_right _ (List.mem_of_getElem? (i := 645) rfl), rfl⟩
set_option maxRecDepth 20000 in
theorem wb_647 : (Jvm.Cond.instanceMethod ({ cls := "OmegaDeskModel", name := "differs", desc := "(II)Z" } : Jvm.MethodName)) ∈ WB := List.mem_filter.mpr ⟨List.mem_append_right _ (List.mem_of_getElem? (i := 647) rfl), rfl⟩
set_option maxRecDepth 20000 in
theorem wb_648 : (Jvm.Cond.code ({ cls := "OmegaDeskModel", name := "differs", desc := "(II)Z" } : Jvm.MethodName) prog_8_method_33_code (6 : Nat) (Option.some Jvm.ClassFile.FieldType.boolean)) ∈ WB := List.mem_filter.mpr ⟨List.mem_append_right _ (List.mem_of_getElem? (i := 648) rfl), rfl⟩
set_option maxRecDepth 20000 in
theorem wb_649 : (Jvm.Cond.methodLink "OmegaDeskModel" (116 : Nat) ({ cls := "OmegaDeskModel", name := "begin", desc := "(II)V" } : Jvm.MethodName)) ∈ WB := List.mem_filter.mpr ⟨List.mem_append_right _ (List.mem_of_getElem? (i := 649) rfl), rfl⟩
set_option maxRecDepth 20000 in
theorem wb_651 : (Jvm.Cond.instanceMethod ({ cls := "OmegaDeskModel", name := "begin", desc := "(II)V" } : Jvm.MethodName)) ∈ WB := List.mem_filter.mpr ⟨List.mem_append_right _ (List.mem_of_getElem? (i := 651) rfl), rfl⟩
set_option maxRecDepth 20000 in
theorem wb_652 : (Jvm.Cond.code ({ cls := "OmegaDeskModel", name := "begin", desc := "(II)V" } : Jvm.MethodName) prog_8_method_25_code (6 : Nat) (Option.none : Option Jvm.ClassFile.FieldType)) ∈ WB := List.mem_filter.mpr ⟨List.mem_append_right _ (List.mem_of_getElem? (i := 652) rfl), rfl⟩
set_option maxRecDepth 20000 in
theorem wb_653 : (Jvm.Cond.methodLink "OmegaDeskModel" (93 : Nat) ({ cls := "OmegaDeskModel", name := "goOn", desc := "(IIII)Z" } : Jvm.MethodName)) ∈ WB := List.mem_filter.mpr ⟨List.mem_append_right _ (List.mem_of_getElem? (i := 653) rfl), rfl⟩
set_option maxRecDepth 20000 in
theorem wb_655 : (Jvm.Cond.instanceMethod ({ cls := "OmegaDeskModel", name := "goOn", desc := "(IIII)Z" } : Jvm.MethodName)) ∈ WB := List.mem_filter.mpr ⟨List.mem_append_right _ (List.mem_of_getElem? (i := 655) rfl), rfl⟩
set_option maxRecDepth 20000 in
theorem wb_656 : (Jvm.Cond.code ({ cls := "OmegaDeskModel", name := "goOn", desc := "(IIII)Z" } : Jvm.MethodName) prog_8_method_26_code (10 : Nat) (Option.some Jvm.ClassFile.FieldType.boolean)) ∈ WB := List.mem_filter.mpr ⟨List.mem_append_right _ (List.mem_of_getElem? (i := 656) rfl), rfl⟩
set_option maxRecDepth 20000 in
theorem wb_657 : (Jvm.Cond.methodLink "OmegaDeskModel" (119 : Nat) ({ cls := "OmegaDeskModel", name := "gather", desc := "(III)V" } : Jvm.MethodName)) ∈ WB := List.mem_filter.mpr ⟨List.mem_append_right _ (List.mem_of_getElem? (i := 657) rfl), rfl⟩
set_option maxRecDepth 20000 in
theorem wb_659 : (Jvm.Cond.instanceMethod ({ cls := "OmegaDeskModel", name := "gather", desc := "(III)V" } : Jvm.MethodName)) ∈ WB := List.mem_filter.mpr ⟨List.mem_append_right _ (List.mem_of_getElem? (i := 659) rfl), rfl⟩
set_option maxRecDepth 20000 in
theorem wb_660 : (Jvm.Cond.code ({ cls := "OmegaDeskModel", name := "gather", desc := "(III)V" } : Jvm.MethodName) prog_8_method_29_code (8 : Nat) (Option.none : Option Jvm.ClassFile.FieldType)) ∈ WB := List.mem_filter.mpr ⟨List.mem_append_right _ (List.mem_of_getElem? (i := 660) rfl), rfl⟩
set_option maxRecDepth 20000 in
theorem wb_661 : (Jvm.Cond.methodLink "OmegaDeskModel" (96 : Nat) ({ cls := "OmegaDeskModel", name := "power", desc := "(I)I" } : Jvm.MethodName)) ∈ WB := List.mem_filter.mpr ⟨List.mem_append_right _ (List.mem_of_getElem? (i := 661) rfl), rfl⟩
set_option maxRecDepth 20000 in
theorem wb_662 : (Jvm.Cond.static ({ cls := "OmegaDeskModel", name := "power", desc := "(I)I" } : Jvm.MethodName)) ∈ WB := List.mem_filter.mpr ⟨List.mem_append_right _ (List.mem_of_getElem? (i := 662) rfl), rfl⟩
set_option maxRecDepth 20000 in
theorem wb_663 : (Jvm.Cond.code ({ cls := "OmegaDeskModel", name := "power", desc := "(I)I" } : Jvm.MethodName) prog_8_method_30_code (3 : Nat) (Option.some Jvm.ClassFile.FieldType.int)) ∈ WB := List.mem_filter.mpr ⟨List.mem_append_right _ (List.mem_of_getElem? (i := 663) rfl), rfl⟩
set_option maxRecDepth 20000 in
theorem wb_664 : (Jvm.Cond.methodLink "OmegaDeskModel" (99 : Nat) ({ cls := "OmegaDeskModel", name := "mark", desc := "([JI)V" } : Jvm.MethodName)) ∈ WB := List.mem_filter.mpr ⟨List.mem_append_right _ (List.mem_of_getElem? (i := 664) rfl), rfl⟩
set_option maxRecDepth 20000 in
theorem wb_665 : (Jvm.Cond.static ({ cls := "OmegaDeskModel", name := "mark", desc := "([JI)V" } : Jvm.MethodName)) ∈ WB := List.mem_filter.mpr ⟨List.mem_append_right _ (List.mem_of_getElem? (i := 665) rfl), rfl⟩
set_option maxRecDepth 20000 in
theorem wb_666 : (Jvm.Cond.code ({ cls := "OmegaDeskModel", name := "mark", desc := "([JI)V" } : Jvm.MethodName) prog_8_method_24_code (2 : Nat) (Option.none : Option Jvm.ClassFile.FieldType)) ∈ WB := List.mem_filter.mpr ⟨List.mem_append_right _ (List.mem_of_getElem? (i := 666) rfl), rfl⟩
set_option maxRecDepth 20000 in
theorem wb_667 : (Jvm.Cond.methodLink "OmegaDeskModel" (103 : Nat) ({ cls := "OmegaDeskModel", name := "lead", desc := "(III)V" } : Jvm.MethodName)) ∈ WB := List.mem_filter.mpr ⟨List.mem_append_right _ (List.mem_of_getElem? (i := 667) rfl), rfl⟩
set_option maxRecDepth 20000 in
theorem wb_669 : (Jvm.Cond.instanceMethod ({ cls := "OmegaDeskModel", name := "lead", desc := "(III)V" } : Jvm.MethodName)) ∈ WB := List.mem_filter.mpr ⟨List.mem_append_right _ (List.mem_of_getElem? (i := 669) rfl), rfl⟩
set_option maxRecDepth 20000 in
theorem wb_670 : (Jvm.Cond.code ({ cls := "OmegaDeskModel", name := "lead", desc := "(III)V" } : Jvm.MethodName) prog_8_method_31_code (11 : Nat) (Option.none : Option Jvm.ClassFile.FieldType)) ∈ WB := List.mem_filter.mpr ⟨List.mem_append_right _ (List.mem_of_getElem? (i := 670) rfl), rfl⟩
set_option maxRecDepth 20000 in
theorem wb_671 : (Jvm.Cond.methodLink "OmegaDeskModel" (109 : Nat) ({ cls := "OmegaDeskModel", name := "spread", desc := "(I)V" } : Jvm.MethodName)) ∈ WB := List.mem_filter.mpr ⟨List.mem_append_right _ (List.mem_of_getElem? (i := 671) rfl), rfl⟩
set_option maxRecDepth 20000 in
theorem wb_673 : (Jvm.Cond.instanceMethod ({ cls := "OmegaDeskModel", name := "spread", desc := "(I)V" } : Jvm.MethodName)) ∈ WB := List.mem_filter.mpr ⟨List.mem_append_right _ (List.mem_of_getElem? (i := 673) rfl), rfl⟩
set_option maxRecDepth 20000 in
theorem wb_674 : (Jvm.Cond.code ({ cls := "OmegaDeskModel", name := "spread", desc := "(I)V" } : Jvm.MethodName) prog_8_method_27_code (4 : Nat) (Option.none : Option Jvm.ClassFile.FieldType)) ∈ WB := List.mem_filter.mpr ⟨List.mem_append_right _ (List.mem_of_getElem? (i := 674) rfl), rfl⟩
set_option maxRecDepth 20000 in
theorem wb_675 : (Jvm.Cond.methodLink "OmegaDeskModel" (113 : Nat) ({ cls := "OmegaDeskModel", name := "longer", desc := "(II)I" } : Jvm.MethodName)) ∈ WB := List.mem_filter.mpr ⟨List.mem_append_right _ (List.mem_of_getElem? (i := 675) rfl), rfl⟩
set_option maxRecDepth 20000 in
theorem wb_677 : (Jvm.Cond.instanceMethod ({ cls := "OmegaDeskModel", name := "longer", desc := "(II)I" } : Jvm.MethodName)) ∈ WB := List.mem_filter.mpr ⟨List.mem_append_right _ (List.mem_of_getElem? (i := 677) rfl), rfl⟩
set_option maxRecDepth 20000 in
theorem wb_678 : (Jvm.Cond.code ({ cls := "OmegaDeskModel", name := "longer", desc := "(II)I" } : Jvm.MethodName) prog_8_method_28_code (9 : Nat) (Option.some Jvm.ClassFile.FieldType.int)) ∈ WB := List.mem_filter.mpr ⟨List.mem_append_right _ (List.mem_of_getElem? (i := 678) rfl), rfl⟩
set_option maxRecDepth 20000 in
theorem wb_679 : (Jvm.Cond.constantLong "OmegaDeskModel" (107 : Nat) (-1 : Int64)) ∈ WB := List.mem_filter.mpr ⟨List.mem_append_right _ (List.mem_of_getElem? (i := 679) rfl), rfl⟩
set_option maxRecDepth 20000 in
theorem wb_680 : (Jvm.Cond.methodLink "OmegaDeskModel" (122 : Nat) ({ cls := "OmegaDeskModel", name := "bit", desc := "([JI)Z" } : Jvm.MethodName)) ∈ WB := List.mem_filter.mpr ⟨List.mem_append_right _ (List.mem_of_getElem? (i := 680) rfl), rfl⟩
set_option maxRecDepth 20000 in
theorem wb_681 : (Jvm.Cond.static ({ cls := "OmegaDeskModel", name := "bit", desc := "([JI)Z" } : Jvm.MethodName)) ∈ WB := List.mem_filter.mpr ⟨List.mem_append_right _ (List.mem_of_getElem? (i := 681) rfl), rfl⟩
set_option maxRecDepth 20000 in
theorem wb_682 : (Jvm.Cond.code ({ cls := "OmegaDeskModel", name := "bit", desc := "([JI)Z" } : Jvm.MethodName) prog_8_method_23_code (2 : Nat) (Option.some Jvm.ClassFile.FieldType.boolean)) ∈ WB := List.mem_filter.mpr ⟨List.mem_append_right _ (List.mem_of_getElem? (i := 682) rfl), rfl⟩
set_option maxRecDepth 20000 in
theorem wb_683 : (Jvm.Cond.methodLink "OmegaDeskModel" (126 : Nat) ({ cls := "OmegaDeskModel", name := "taken", desc := "(II)I" } : Jvm.MethodName)) ∈ WB := List.mem_filter.mpr ⟨List.mem_append_right _ (List.mem_of_getElem? (i := 683) rfl), rfl⟩
set_option maxRecDepth 20000 in
theorem wb_685 : (Jvm.Cond.instanceMethod ({ cls := "OmegaDeskModel", name := "taken", desc := "(II)I" } : Jvm.MethodName)) ∈ WB := List.mem_filter.mpr ⟨List.mem_append_right _ (List.mem_of_getElem? (i := 685) rfl), rfl⟩
set_option maxRecDepth 20000 in
theorem wb_686 : (Jvm.Cond.code ({ cls := "OmegaDeskModel", name := "taken", desc := "(II)I" } : Jvm.MethodName) prog_8_method_32_code (10 : Nat) (Option.some Jvm.ClassFile.FieldType.int)) ∈ WB := List.mem_filter.mpr ⟨List.mem_append_right _ (List.mem_of_getElem? (i := 686) rfl), rfl⟩
set_option maxRecDepth 20000 in
theorem wb_687 : (Jvm.Cond.methodLink "OmegaDeskModel" (129 : Nat) ({ cls := "OmegaDeskModel", name := "misses", desc := "(II)Z" } : Jvm.MethodName)) ∈ WB := List.mem_filter.mpr ⟨List.mem_append_right _ (List.mem_of_getElem? (i := 687) rfl), rfl⟩
set_option maxRecDepth 20000 in
theorem wb_688 : (Jvm.Cond.static ({ cls := "OmegaDeskModel", name := "misses", desc := "(II)Z" } : Jvm.MethodName)) ∈ WB := List.mem_filter.mpr ⟨List.mem_append_right _ (List.mem_of_getElem? (i := 688) rfl), rfl⟩
set_option maxRecDepth 20000 in
theorem wb_689 : (Jvm.Cond.code ({ cls := "OmegaDeskModel", name := "misses", desc := "(II)Z" } : Jvm.MethodName) prog_8_method_34_code (3 : Nat) (Option.some Jvm.ClassFile.FieldType.boolean)) ∈ WB := List.mem_filter.mpr ⟨List.mem_append_right _ (List.mem_of_getElem? (i := 689) rfl), rfl⟩
set_option maxRecDepth 20000 in
theorem wb_690 : (Jvm.Cond.methodLink "OmegaDeskModel" (139 : Nat) ({ cls := "OmegaDeskModel", name := "look", desc := "(III)Z" } : Jvm.MethodName)) ∈ WB := List.mem_filter.mpr ⟨List.mem_append_right _ (List.mem_of_getElem? (i := 690) rfl), rfl⟩
set_option maxRecDepth 20000 in
theorem wb_692 : (Jvm.Cond.instanceMethod ({ cls := "OmegaDeskModel", name := "look", desc := "(III)Z" } : Jvm.MethodName)) ∈ WB := List.mem_filter.mpr ⟨List.mem_append_right _ (List.mem_of_getElem? (i := 692) rfl), rfl⟩
set_option maxRecDepth 20000 in
theorem wb_693 : (Jvm.Cond.code ({ cls := "OmegaDeskModel", name := "look", desc := "(III)Z" } : Jvm.MethodName) prog_8_method_35_code (9 : Nat) (Option.some Jvm.ClassFile.FieldType.boolean)) ∈ WB := List.mem_filter.mpr ⟨List.mem_append_right _ (List.mem_of_getElem? (i := 693) rfl), rfl⟩
set_option maxRecDepth 20000 in
theorem wb_697 : (Jvm.Cond.code ({ cls := "OmegaDeskModel", name := "witness", desc := "(I)I" } : Jvm.MethodName) prog_8_method_37_code (2 : Nat) (Option.some Jvm.ClassFile.FieldType.int)) ∈ WB := List.mem_filter.mpr ⟨List.mem_append_right _ (List.mem_of_getElem? (i := 697) rfl), rfl⟩
set_option maxRecDepth 20000 in
theorem wb_701 : (Jvm.Cond.code ({ cls := "OmegaDeskModel", name := "states", desc := "(I)I" } : Jvm.MethodName) prog_8_method_38_code (2 : Nat) (Option.some Jvm.ClassFile.FieldType.int)) ∈ WB := List.mem_filter.mpr ⟨List.mem_append_right _ (List.mem_of_getElem? (i := 701) rfl), rfl⟩
set_option maxRecDepth 20000 in
theorem wb_702 : (Jvm.Cond.methodLink "OmegaDeskModel" (142 : Nat) ({ cls := "OmegaDeskModel", name := "fail", desc := "(I)I" } : Jvm.MethodName)) ∈ WB := List.mem_filter.mpr ⟨List.mem_append_right _ (List.mem_of_getElem? (i := 702) rfl), rfl⟩
set_option maxRecDepth 20000 in
theorem wb_704 : (Jvm.Cond.instanceMethod ({ cls := "OmegaDeskModel", name := "fail", desc := "(I)I" } : Jvm.MethodName)) ∈ WB := List.mem_filter.mpr ⟨List.mem_append_right _ (List.mem_of_getElem? (i := 704) rfl), rfl⟩
set_option maxRecDepth 20000 in
theorem wb_705 : (Jvm.Cond.code ({ cls := "OmegaDeskModel", name := "fail", desc := "(I)I" } : Jvm.MethodName) prog_8_method_4_code (2 : Nat) (Option.some Jvm.ClassFile.FieldType.int)) ∈ WB := List.mem_filter.mpr ⟨List.mem_append_right _ (List.mem_of_getElem? (i := 705) rfl), rfl⟩
set_option maxRecDepth 20000 in
theorem wb_709 : (Jvm.Cond.code ({ cls := "OmegaDeskModel", name := "good", desc := "(II)Z" } : Jvm.MethodName) prog_8_method_39_code (3 : Nat) (Option.some Jvm.ClassFile.FieldType.boolean)) ∈ WB := List.mem_filter.mpr ⟨List.mem_append_right _ (List.mem_of_getElem? (i := 709) rfl), rfl⟩
set_option maxRecDepth 20000 in
theorem wb_713 : (Jvm.Cond.code ({ cls := "OmegaDeskModel", name := "has", desc := "(IIII)Z" } : Jvm.MethodName) prog_8_method_40_code (5 : Nat) (Option.some Jvm.ClassFile.FieldType.boolean)) ∈ WB := List.mem_filter.mpr ⟨List.mem_append_right _ (List.mem_of_getElem? (i := 713) rfl), rfl⟩
set_option maxRecDepth 20000 in
theorem uw_A : ∀ w ∈ u_ws R_A F_A 3, w ∈ WB := by
  intro w hw
  obtain ⟨k, hk, rfl⟩ := List.mem_map.mp hw
  have hk := List.mem_range.mp hk
  rcases (show k = 0 ∨ k = 1 ∨ k = 2 by omega) with rfl | rfl | rfl
  · exact List.mem_filter.mpr ⟨List.mem_append_right _ (List.mem_of_getElem? (i := 39) rfl), rfl⟩
  · exact List.mem_filter.mpr ⟨List.mem_append_right _ (List.mem_of_getElem? (i := 41) rfl), rfl⟩
  · exact List.mem_filter.mpr ⟨List.mem_append_right _ (List.mem_of_getElem? (i := 43) rfl), rfl⟩
set_option maxRecDepth 20000 in
theorem uw_D : ∀ w ∈ u_ws R_D F_D 4, w ∈ WB := by
  intro w hw
  obtain ⟨k, hk, rfl⟩ := List.mem_map.mp hw
  have hk := List.mem_range.mp hk
  rcases (show k = 0 ∨ k = 1 ∨ k = 2 ∨ k = 3 by omega) with rfl | rfl | rfl | rfl
  · exact List.mem_filter.mpr ⟨List.mem_append_right _ (List.mem_of_getElem? (i := 125) rfl), rfl⟩
  · exact List.mem_filter.mpr ⟨List.mem_append_right _ (List.mem_of_getElem? (i := 127) rfl), rfl⟩
  · exact List.mem_filter.mpr ⟨List.mem_append_right _ (List.mem_of_getElem? (i := 129) rfl), rfl⟩
  · exact List.mem_filter.mpr ⟨List.mem_append_right _ (List.mem_of_getElem? (i := 131) rfl), rfl⟩
set_option maxRecDepth 20000 in
theorem uw_R : ∀ w ∈ u_ws R_R F_R 7, w ∈ WB := by
  intro w hw
  obtain ⟨k, hk, rfl⟩ := List.mem_map.mp hw
  have hk := List.mem_range.mp hk
  rcases (show k = 0 ∨ k = 1 ∨ k = 2 ∨ k = 3 ∨ k = 4 ∨ k = 5 ∨ k = 6 by omega) with rfl | rfl | rfl | rfl | rfl | rfl | rfl
  · exact List.mem_filter.mpr ⟨List.mem_append_right _ (List.mem_of_getElem? (i := 60) rfl), rfl⟩
  · exact List.mem_filter.mpr ⟨List.mem_append_right _ (List.mem_of_getElem? (i := 62) rfl), rfl⟩
  · exact List.mem_filter.mpr ⟨List.mem_append_right _ (List.mem_of_getElem? (i := 64) rfl), rfl⟩
  · exact List.mem_filter.mpr ⟨List.mem_append_right _ (List.mem_of_getElem? (i := 66) rfl), rfl⟩
  · exact List.mem_filter.mpr ⟨List.mem_append_right _ (List.mem_of_getElem? (i := 68) rfl), rfl⟩
  · exact List.mem_filter.mpr ⟨List.mem_append_right _ (List.mem_of_getElem? (i := 70) rfl), rfl⟩
  · exact List.mem_filter.mpr ⟨List.mem_append_right _ (List.mem_of_getElem? (i := 72) rfl), rfl⟩
set_option maxRecDepth 20000 in
theorem uw_F : ∀ w ∈ u_ws R_F F_F 7, w ∈ WB := by
  intro w hw
  obtain ⟨k, hk, rfl⟩ := List.mem_map.mp hw
  have hk := List.mem_range.mp hk
  rcases (show k = 0 ∨ k = 1 ∨ k = 2 ∨ k = 3 ∨ k = 4 ∨ k = 5 ∨ k = 6 by omega) with rfl | rfl | rfl | rfl | rfl | rfl | rfl
  · exact List.mem_filter.mpr ⟨List.mem_append_right _ (List.mem_of_getElem? (i := 106) rfl), rfl⟩
  · exact List.mem_filter.mpr ⟨List.mem_append_right _ (List.mem_of_getElem? (i := 108) rfl), rfl⟩
  · exact List.mem_filter.mpr ⟨List.mem_append_right _ (List.mem_of_getElem? (i := 110) rfl), rfl⟩
  · exact List.mem_filter.mpr ⟨List.mem_append_right _ (List.mem_of_getElem? (i := 112) rfl), rfl⟩
  · exact List.mem_filter.mpr ⟨List.mem_append_right _ (List.mem_of_getElem? (i := 114) rfl), rfl⟩
  · exact List.mem_filter.mpr ⟨List.mem_append_right _ (List.mem_of_getElem? (i := 116) rfl), rfl⟩
  · exact List.mem_filter.mpr ⟨List.mem_append_right _ (List.mem_of_getElem? (i := 118) rfl), rfl⟩
set_option maxRecDepth 20000 in
theorem uw_T : ∀ w ∈ u_ws R_T F_T 2, w ∈ WB := by
  intro w hw
  obtain ⟨k, hk, rfl⟩ := List.mem_map.mp hw
  have hk := List.mem_range.mp hk
  rcases (show k = 0 ∨ k = 1 by omega) with rfl | rfl
  · exact List.mem_filter.mpr ⟨List.mem_append_right _ (List.mem_of_getElem? (i := 89) rfl), rfl⟩
  · exact List.mem_filter.mpr ⟨List.mem_append_right _ (List.mem_of_getElem? (i := 91) rfl), rfl⟩
set_option maxRecDepth 20000 in
theorem uw_M : ∀ w ∈ u_ws R_M F_M 12, w ∈ WB := by
  intro w hw
  obtain ⟨k, hk, rfl⟩ := List.mem_map.mp hw
  have hk := List.mem_range.mp hk
  rcases (show k = 0 ∨ k = 1 ∨ k = 2 ∨ k = 3 ∨ k = 4 ∨ k = 5 ∨ k = 6 ∨ k = 7 ∨ k = 8 ∨ k = 9 ∨ k = 10 ∨ k = 11 by omega) with rfl | rfl | rfl | rfl | rfl | rfl | rfl | rfl | rfl | rfl | rfl | rfl
  · exact List.mem_filter.mpr ⟨List.mem_append_right _ (List.mem_of_getElem? (i := 537) rfl), rfl⟩
  · exact List.mem_filter.mpr ⟨List.mem_append_right _ (List.mem_of_getElem? (i := 539) rfl), rfl⟩
  · exact List.mem_filter.mpr ⟨List.mem_append_right _ (List.mem_of_getElem? (i := 541) rfl), rfl⟩
  · exact List.mem_filter.mpr ⟨List.mem_append_right _ (List.mem_of_getElem? (i := 543) rfl), rfl⟩
  · exact List.mem_filter.mpr ⟨List.mem_append_right _ (List.mem_of_getElem? (i := 545) rfl), rfl⟩
  · exact List.mem_filter.mpr ⟨List.mem_append_right _ (List.mem_of_getElem? (i := 547) rfl), rfl⟩
  · exact List.mem_filter.mpr ⟨List.mem_append_right _ (List.mem_of_getElem? (i := 549) rfl), rfl⟩
  · exact List.mem_filter.mpr ⟨List.mem_append_right _ (List.mem_of_getElem? (i := 551) rfl), rfl⟩
  · exact List.mem_filter.mpr ⟨List.mem_append_right _ (List.mem_of_getElem? (i := 553) rfl), rfl⟩
  · exact List.mem_filter.mpr ⟨List.mem_append_right _ (List.mem_of_getElem? (i := 555) rfl), rfl⟩
  · exact List.mem_filter.mpr ⟨List.mem_append_right _ (List.mem_of_getElem? (i := 557) rfl), rfl⟩
  · exact List.mem_filter.mpr ⟨List.mem_append_right _ (List.mem_of_getElem? (i := 559) rfl), rfl⟩
theorem ws_D_automatonAt : Cond.selects "OmegaDesk" ⟨"OmegaDesk", "automatonAt", "(I)LOmegaDesk$Automaton;"⟩ ⟨"OmegaDesk", "automatonAt", "(I)LOmegaDesk$Automaton;"⟩ ∈ WB := List.mem_filter.mpr ⟨List.mem_append_left _ (List.mem_of_getElem? (i := 0) rfl), rfl⟩
theorem ws_D_automatonWithPlaces : Cond.selects "OmegaDesk" ⟨"OmegaDesk", "automatonWithPlaces", "(IIII)LOmegaDesk$Automaton;"⟩ ⟨"OmegaDesk", "automatonWithPlaces", "(IIII)LOmegaDesk$Automaton;"⟩ ∈ WB := List.mem_filter.mpr ⟨List.mem_append_left _ (List.mem_of_getElem? (i := 2) rfl), rfl⟩
theorem ws_A_joinAll : Cond.selects "OmegaDesk$Automaton" ⟨"OmegaDesk$Automaton", "joinAll", "(III)V"⟩ ⟨"OmegaDesk$Automaton", "joinAll", "(III)V"⟩ ∈ WB := List.mem_filter.mpr ⟨List.mem_append_left _ (List.mem_of_getElem? (i := 3) rfl), rfl⟩
theorem ws_R_reset : Cond.selects "OmegaDesk$Refuter" ⟨"OmegaDesk$Refuter", "reset", "()V"⟩ ⟨"OmegaDesk$Refuter", "reset", "()V"⟩ ∈ WB := List.mem_filter.mpr ⟨List.mem_append_left _ (List.mem_of_getElem? (i := 4) rfl), rfl⟩
theorem ws_R_findMeetings : Cond.selects "OmegaDesk$Refuter" ⟨"OmegaDesk$Refuter", "findMeetings", "(LOmegaDesk$Automaton;LOmegaDesk$Automaton;)V"⟩ ⟨"OmegaDesk$Refuter", "findMeetings", "(LOmegaDesk$Automaton;LOmegaDesk$Automaton;)V"⟩ ∈ WB := List.mem_filter.mpr ⟨List.mem_append_left _ (List.mem_of_getElem? (i := 5) rfl), rfl⟩
theorem ws_R_spreadMeeting : Cond.selects "OmegaDesk$Refuter" ⟨"OmegaDesk$Refuter", "spreadMeeting", "(LOmegaDesk$Automaton;LOmegaDesk$Automaton;II)Z"⟩ ⟨"OmegaDesk$Refuter", "spreadMeeting", "(LOmegaDesk$Automaton;LOmegaDesk$Automaton;II)Z"⟩ ∈ WB := List.mem_filter.mpr ⟨List.mem_append_left _ (List.mem_of_getElem? (i := 6) rfl), rfl⟩
theorem ws_R_offer : Cond.selects "OmegaDesk$Refuter" ⟨"OmegaDesk$Refuter", "offer", "(II)I"⟩ ⟨"OmegaDesk$Refuter", "offer", "(II)I"⟩ ∈ WB := List.mem_filter.mpr ⟨List.mem_append_left _ (List.mem_of_getElem? (i := 7) rfl), rfl⟩
theorem ws_R_slotOf : Cond.selects "OmegaDesk$Refuter" ⟨"OmegaDesk$Refuter", "slotOf", "(I)I"⟩ ⟨"OmegaDesk$Refuter", "slotOf", "(I)I"⟩ ∈ WB := List.mem_filter.mpr ⟨List.mem_append_left _ (List.mem_of_getElem? (i := 8) rfl), rfl⟩
theorem ws_R_enqueue : Cond.selects "OmegaDesk$Refuter" ⟨"OmegaDesk$Refuter", "enqueue", "(I)V"⟩ ⟨"OmegaDesk$Refuter", "enqueue", "(I)V"⟩ ∈ WB := List.mem_filter.mpr ⟨List.mem_append_left _ (List.mem_of_getElem? (i := 9) rfl), rfl⟩
theorem ws_R_nextQueued : Cond.selects "OmegaDesk$Refuter" ⟨"OmegaDesk$Refuter", "nextQueued", "()I"⟩ ⟨"OmegaDesk$Refuter", "nextQueued", "()I"⟩ ∈ WB := List.mem_filter.mpr ⟨List.mem_append_left _ (List.mem_of_getElem? (i := 10) rfl), rfl⟩
theorem ws_R_refutesWith : Cond.selects "OmegaDesk$Refuter" ⟨"OmegaDesk$Refuter", "refutesWith", "(II)Z"⟩ ⟨"OmegaDesk$Refuter", "refutesWith", "(II)Z"⟩ ∈ WB := List.mem_filter.mpr ⟨List.mem_append_left _ (List.mem_of_getElem? (i := 11) rfl), rfl⟩
theorem ws_F_searchSplit : Cond.selects "OmegaDesk$LassoFinder" ⟨"OmegaDesk$LassoFinder", "searchSplit", "(II)V"⟩ ⟨"OmegaDesk$LassoFinder", "searchSplit", "(II)V"⟩ ∈ WB := List.mem_filter.mpr ⟨List.mem_append_left _ (List.mem_of_getElem? (i := 12) rfl), rfl⟩
theorem ws_M_add : Cond.selects "OmegaDeskModel" ⟨"OmegaDeskModel", "add", "(IZ)V"⟩ ⟨"OmegaDeskModel", "add", "(IZ)V"⟩ ∈ WB := List.mem_filter.mpr ⟨List.mem_append_left _ (List.mem_of_getElem? (i := 13) rfl), rfl⟩
theorem ws_M_isEdge : Cond.selects "OmegaDeskModel" ⟨"OmegaDeskModel", "isEdge", "(IIII)Z"⟩ ⟨"OmegaDeskModel", "isEdge", "(IIII)Z"⟩ ∈ WB := List.mem_filter.mpr ⟨List.mem_append_left _ (List.mem_of_getElem? (i := 14) rfl), rfl⟩
theorem ws_M_append : Cond.selects "OmegaDeskModel" ⟨"OmegaDeskModel", "append", "(II)V"⟩ ⟨"OmegaDeskModel", "append", "(II)V"⟩ ∈ WB := List.mem_filter.mpr ⟨List.mem_append_left _ (List.mem_of_getElem? (i := 15) rfl), rfl⟩
theorem ws_M_living : Cond.selects "OmegaDeskModel" ⟨"OmegaDeskModel", "living", "(I)I"⟩ ⟨"OmegaDeskModel", "living", "(I)I"⟩ ∈ WB := List.mem_filter.mpr ⟨List.mem_append_left _ (List.mem_of_getElem? (i := 16) rfl), rfl⟩
theorem ws_M_alive : Cond.selects "OmegaDeskModel" ⟨"OmegaDeskModel", "alive", "(II)Z"⟩ ⟨"OmegaDeskModel", "alive", "(II)Z"⟩ ∈ WB := List.mem_filter.mpr ⟨List.mem_append_left _ (List.mem_of_getElem? (i := 17) rfl), rfl⟩
theorem ws_M_ahead : Cond.selects "OmegaDeskModel" ⟨"OmegaDeskModel", "ahead", "(II)I"⟩ ⟨"OmegaDeskModel", "ahead", "(II)I"⟩ ∈ WB := List.mem_filter.mpr ⟨List.mem_append_left _ (List.mem_of_getElem? (i := 18) rfl), rfl⟩
theorem ws_M_lasso : Cond.selects "OmegaDeskModel" ⟨"OmegaDeskModel", "lasso", "(IIIII)Z"⟩ ⟨"OmegaDeskModel", "lasso", "(IIIII)Z"⟩ ∈ WB := List.mem_filter.mpr ⟨List.mem_append_left _ (List.mem_of_getElem? (i := 19) rfl), rfl⟩
theorem ws_M_allBehind : Cond.selects "OmegaDeskModel" ⟨"OmegaDeskModel", "allBehind", "(IJIIII)J"⟩ ⟨"OmegaDeskModel", "allBehind", "(IJIIII)J"⟩ ∈ WB := List.mem_filter.mpr ⟨List.mem_append_left _ (List.mem_of_getElem? (i := 20) rfl), rfl⟩
theorem ws_M_behind : Cond.selects "OmegaDeskModel" ⟨"OmegaDeskModel", "behind", "(IJIIII)J"⟩ ⟨"OmegaDeskModel", "behind", "(IJIIII)J"⟩ ∈ WB := List.mem_filter.mpr ⟨List.mem_append_left _ (List.mem_of_getElem? (i := 21) rfl), rfl⟩
theorem ws_M_differs : Cond.selects "OmegaDeskModel" ⟨"OmegaDeskModel", "differs", "(II)Z"⟩ ⟨"OmegaDeskModel", "differs", "(II)Z"⟩ ∈ WB := List.mem_filter.mpr ⟨List.mem_append_left _ (List.mem_of_getElem? (i := 22) rfl), rfl⟩
theorem ws_M_begin : Cond.selects "OmegaDeskModel" ⟨"OmegaDeskModel", "begin", "(II)V"⟩ ⟨"OmegaDeskModel", "begin", "(II)V"⟩ ∈ WB := List.mem_filter.mpr ⟨List.mem_append_left _ (List.mem_of_getElem? (i := 23) rfl), rfl⟩
theorem ws_M_goOn : Cond.selects "OmegaDeskModel" ⟨"OmegaDeskModel", "goOn", "(IIII)Z"⟩ ⟨"OmegaDeskModel", "goOn", "(IIII)Z"⟩ ∈ WB := List.mem_filter.mpr ⟨List.mem_append_left _ (List.mem_of_getElem? (i := 24) rfl), rfl⟩
theorem ws_M_gather : Cond.selects "OmegaDeskModel" ⟨"OmegaDeskModel", "gather", "(III)V"⟩ ⟨"OmegaDeskModel", "gather", "(III)V"⟩ ∈ WB := List.mem_filter.mpr ⟨List.mem_append_left _ (List.mem_of_getElem? (i := 25) rfl), rfl⟩
theorem ws_M_lead : Cond.selects "OmegaDeskModel" ⟨"OmegaDeskModel", "lead", "(III)V"⟩ ⟨"OmegaDeskModel", "lead", "(III)V"⟩ ∈ WB := List.mem_filter.mpr ⟨List.mem_append_left _ (List.mem_of_getElem? (i := 26) rfl), rfl⟩
theorem ws_M_spread : Cond.selects "OmegaDeskModel" ⟨"OmegaDeskModel", "spread", "(I)V"⟩ ⟨"OmegaDeskModel", "spread", "(I)V"⟩ ∈ WB := List.mem_filter.mpr ⟨List.mem_append_left _ (List.mem_of_getElem? (i := 27) rfl), rfl⟩
theorem ws_M_longer : Cond.selects "OmegaDeskModel" ⟨"OmegaDeskModel", "longer", "(II)I"⟩ ⟨"OmegaDeskModel", "longer", "(II)I"⟩ ∈ WB := List.mem_filter.mpr ⟨List.mem_append_left _ (List.mem_of_getElem? (i := 28) rfl), rfl⟩
theorem ws_M_taken : Cond.selects "OmegaDeskModel" ⟨"OmegaDeskModel", "taken", "(II)I"⟩ ⟨"OmegaDeskModel", "taken", "(II)I"⟩ ∈ WB := List.mem_filter.mpr ⟨List.mem_append_left _ (List.mem_of_getElem? (i := 29) rfl), rfl⟩
theorem ws_M_look : Cond.selects "OmegaDeskModel" ⟨"OmegaDeskModel", "look", "(III)Z"⟩ ⟨"OmegaDeskModel", "look", "(III)Z"⟩ ∈ WB := List.mem_filter.mpr ⟨List.mem_append_left _ (List.mem_of_getElem? (i := 30) rfl), rfl⟩
theorem ws_M_fail : Cond.selects "OmegaDeskModel" ⟨"OmegaDeskModel", "fail", "(I)I"⟩ ⟨"OmegaDeskModel", "fail", "(I)I"⟩ ∈ WB := List.mem_filter.mpr ⟨List.mem_append_left _ (List.mem_of_getElem? (i := 31) rfl), rfl⟩
end
section
/-! my own engine: a pure machine over the kit's judgements. A cell has a name (kind, number); a reference is a cell's name; the memory holds ints and longs alone, the shape of the world stands. -/
abbrev PV : Type := Int32 ⊕ (Int64 ⊕ (Nat × Nat))
abbrev Mm : Type := (Nat × Nat → Nat → Int32) × (Nat × Nat → Nat → Int64)
abbrev AD : Type := Nat × Nat → Nat
abbrev Zc : Type := Nat × Nat × Nat
abbrev vi (x : Int32) : PV := Sum.inl x
abbrev vl (x : Int64) : PV := Sum.inr (Sum.inl x)
abbrev vr (k j : Nat) : PV := Sum.inr (Sum.inr (k, j))
def tv (ad : AD) (v : PV) : Value := match v with
  | .inl x => .int x
  | .inr (.inl x) => .long x
  | .inr (.inr c) => .ref (ad c)
def pcat (v : PV) : Nat := match v with
  | .inl _ => 1
  | .inr (.inl _) => 2
  | .inr (.inr _) => 1
theorem tv_cat (ad : AD) (v : PV) : (tv ad v).category = pcat v := by
  rcases v with x | x | x <;> rfl
-- int arrays: 0-6 followers (6: the spare one's), 7 keys, 8 seenWays, 9 freshWays, 10 queue, 11 meetings, 12-15 passages and takenRepeated of the two tables, 16 to, 17 good, 18 size, 19 witness, 20 digit, 21 after, 22 beginnings
def lenI (n : Nat) : Nat := if n < 7 then 32 else if n < 11 then 1024 else if n = 11 then 4 else if n < 16 then 512 else if n = 16 then 48 else if n < 19 then 6 else if n = 19 then 4 else if n < 22 then 9 else 4
-- long arrays: 0 seen, 1 fresh, 2 coming, 3 the law's out
def lenL (n : Nat) : Nat := if n < 3 then 2461 else 1
-- kinds: 0 Automaton, 1 int[], 2 long[], 3 OmegaDesk, 4 Automaton[], 5 Refuter, 6 LassoFinder, 7 WordTable, 8 OmegaDeskModel
def fl (f : Nat → Int32) (c : Nat × Nat) : List PV := match c.1 with
  | 0 => [vi (f 0), vi (f 1), vr 1 c.2]
  | 3 => [vr 4 0, vr 0 6, vr 5 0, vr 6 0]
  | 5 => [vr 1 7, vr 1 8, vr 1 9, vr 1 10, vi (f 4), vi (f 5), vr 1 11]
  | 6 => [vr 7 0, vr 7 1, vi (f 2), vi (f 3), vi (f 4), vi (f 5), vi (f 6)]
  | 7 => [vr 1 (12 + 2 * c.2), vr 1 (13 + 2 * c.2)]
  | _ => [vi (f 0), vr 1 16, vr 1 17, vr 1 18, vi (f 4), vr 1 19, vr 2 0, vr 2 1, vr 2 2, vr 1 20, vr 1 21, vr 1 22]
def cix (k : Nat) : Nat := match k with
  | 0 => 0
  | 3 => 1
  | 5 => 2
  | 6 => 3
  | 7 => 4
  | _ => 5
def smap (ad : AD) (st : List PV) : List Value := st.map (tv ad)
def lmap (ad : AD) (L : List (Nat × PV)) : List (Nat × Value) := L.map (fun q => (q.1, tv ad q.2))
def ent (ad : AD) (z : Zc) (f : Nat → Int32) (g : Nat → Int64) (c : Nat × Nat) : va_E := match c.1 with
  | 1 => .inl (z.1, lenI c.2, .inl f)
  | 2 => .inl (z.2.1, lenL c.2, .inr (.inl g))
  | 4 => .inl (z.2.2, 6, .inr (.inr (.inr (.inr (fun i => some (ad (0, i)))))))
  | k => .inr (cix k, smap ad (fl f c))
def allc : List (Nat × Nat) := [(0, 0), (0, 1), (0, 2), (0, 3), (0, 4), (0, 5), (0, 6), (1, 0), (1, 1), (1, 2), (1, 3), (1, 4), (1, 5), (1, 6), (1, 7), (1, 8), (1, 9), (1, 10), (1, 11), (1, 12), (1, 13), (1, 14), (1, 15), (1, 16), (1, 17), (1, 18), (1, 19), (1, 20), (1, 21), (1, 22), (2, 0), (2, 1), (2, 2), (2, 3), (3, 0), (4, 0), (5, 0), (6, 0), (7, 0), (7, 1), (8, 0)]
def posc (c : Nat × Nat) : Nat := match c.1 with
  | 0 => c.2
  | 1 => 7 + c.2
  | 2 => 30 + c.2
  | 7 => 38 + c.2
  | 8 => 40
  | k => 31 + k
theorem posc_all : ∀ i, i < 41 → (allc[i]?).map posc = some i := by decide
theorem allc_inj {i j : Nat} {c : Nat × Nat} (h1 : allc[i]? = some c) (h2 : allc[j]? = some c) : i = j := by
  have a := posc_all i (List.getElem?_eq_some_iff.mp h1).1
  have b := posc_all j (List.getElem?_eq_some_iff.mp h2).1
  rw [h1] at a
  rw [h2] at b
  exact (Option.some.inj a).symm.trans (Option.some.inj b)
theorem ok0 {j : Nat} (h : j < 7) : (0, j) ∈ allc := by
  rcases (show j = 0 ∨ j = 1 ∨ j = 2 ∨ j = 3 ∨ j = 4 ∨ j = 5 ∨ j = 6 by omega) with rfl | rfl | rfl | rfl | rfl | rfl | rfl <;> decide
theorem ok1 {j : Nat} (h : j < 23) : (1, j) ∈ allc := by
  have hh : ∀ i, i < 23 → (1, i) ∈ allc := by decide
  exact hh j h
theorem ok2 {j : Nat} (h : j < 4) : (2, j) ∈ allc := by
  have hh : ∀ i, i < 4 → (2, i) ∈ allc := by decide
  exact hh j h
theorem ok7 {j : Nat} (h : j < 2) : (7, j) ∈ allc := by
  have hh : ∀ i, i < 2 → (7, i) ∈ allc := by decide
  exact hh j h
def wd (ad : AD) (z : Zc) (M : Mm) : va_W := allc.map (fun c => (ad c, ent ad z (M.1 c) (M.2 c) c))
theorem wd_at {ad : AD} {z : Zc} {M : Mm} {c : Nat × Nat} (h : c ∈ allc) : ∃ q : Nat, (wd ad z M)[q]? = some (ad c, ent ad z (M.1 c) (M.2 c) c) ∧ allc[q]? = some c := by
  obtain ⟨q, hq⟩ := List.getElem?_of_mem h
  exact ⟨q, by simp [wd, hq], hq⟩
theorem wd_set {ad : AD} {z : Zc} {M M' : Mm} {c : Nat × Nat} {q : Nat} (hq : allc[q]? = some c) (h1 : ∀ c', c' ≠ c → M'.1 c' = M.1 c' ∧ M'.2 c' = M.2 c') {e : va_E} (he : e = ent ad z (M'.1 c) (M'.2 c) c) : (wd ad z M).set q (ad c, e) = wd ad z M' := by
  subst he
  apply List.ext_getElem?
  intro i
  by_cases hi : i = q
  · subst hi
    have hl : i < (wd ad z M).length := by
      have := (List.getElem?_eq_some_iff.mp hq).1
      simpa [wd] using this
    rw [List.getElem?_set_self hl]
    simp [wd, hq]
  · rw [List.getElem?_set_ne (Ne.symm hi)]
    simp only [wd, List.getElem?_map]
    cases hc : allc[i]? with
    | none => rfl
    | some c' =>
      have hne : c' ≠ c := by
        intro h
        subst h
        exact hi (allc_inj hc hq)
      obtain ⟨a, b⟩ := h1 c' hne
      show some (ad c', ent ad z (M.1 c') (M.2 c') c') = some (ad c', ent ad z (M'.1 c') (M'.2 c') c')
      rw [a, b]
def uI (M : Mm) (c : Nat × Nat) (k : Nat) (v : Int32) : Mm := (fun c' => if c' = c then upd (M.1 c) k v else M.1 c', M.2)
def uL (M : Mm) (c : Nat × Nat) (k : Nat) (v : Int64) : Mm := (M.1, fun c' => if c' = c then vp_updL (M.2 c) k v else M.2 c')
theorem uI_self (M : Mm) (c : Nat × Nat) (k : Nat) (v : Int32) : (uI M c k v).1 c = upd (M.1 c) k v := if_pos rfl
theorem uI_ne (M : Mm) {c c' : Nat × Nat} (k : Nat) (v : Int32) (h : c' ≠ c) : (uI M c k v).1 c' = M.1 c' := if_neg h
theorem uL_self (M : Mm) (c : Nat × Nat) (k : Nat) (v : Int64) : (uL M c k v).2 c = vp_updL (M.2 c) k v := if_pos rfl
theorem uL_ne (M : Mm) {c c' : Nat × Nat} (k : Nat) (v : Int64) (h : c' ≠ c) : (uL M c k v).2 c' = M.2 c' := if_neg h
abbrev tz (z : Zc) : List (ClassId × FieldType) := [(z.1, .int), (z.2.1, .long), (z.2.2, .object "OmegaDesk$Automaton")]
/-! instruction lengths, a method's table, a method -/
def ilen (i : Jvm.ClassFile.Instr) : Nat := match i with
  | .aload _ | .iload _ | .lload _ | .istore _ | .lstore _ | .astore _ | .bipush _ | .ldc _ | .newarray _ => 2
  | .sipush _ | .ldc_w _ | .ldc2_w _ | .getfield _ | .putfield _ | .getstatic _ | .invokevirtual _ | .invokespecial _ | .invokestatic _ | .new _ | .anewarray _ | .if_icmp _ _ | .ifCond _ _ | .goto _ | .iinc _ _ | .checkcast _ | .instanceof _ | .ifnull _ | .ifnonnull _ | .if_acmp _ _ => 3
  | _ => 1
abbrev Tb : Type := List (Nat × Jvm.ClassFile.Instr × Nat)
def tbq (cc : ByteArray) (q : Nat × Jvm.ClassFile.Instr × Nat) : Bool := match decode cc q.1 with
  | .ok (i, n) => decide (i = q.2.1) && (decide (n = ilen q.2.1) && decide (q.2.2 = q.1 + ilen q.2.1))
  | .error _ => false
def TBk (cc : ByteArray) (tb : Tb) : Prop := tb.all (tbq cc) = true
theorem TBk.at {cc : ByteArray} {tb : Tb} (h : TBk cc tb) {k pc pc' : Nat} {i : Jvm.ClassFile.Instr} (hk : tb[k]? = some (pc, i, pc')) : decode cc pc = .ok (i, ilen i) ∧ pc' = pc + ilen i := by
  have h1 : tbq cc (pc, i, pc') = true := List.all_eq_true.mp h _ (List.mem_of_getElem? hk)
  unfold tbq at h1
  cases hd : decode cc pc with
  | error e => simp only [hd] at h1; cases h1
  | ok r =>
    obtain ⟨i', n⟩ := r
    simp only [hd, Bool.and_eq_true, decide_eq_true_eq] at h1
    obtain ⟨rfl, rfl, e3⟩ := h1
    exact ⟨rfl, e3⟩
abbrev MX : Type := MethodName × ByteArray × Nat × Option FieldType × Room × Tb
abbrev xy (X : MX) : MethodName := X.1
abbrev xc (X : MX) : ByteArray := X.2.1
abbrev xn (X : MX) : Nat := X.2.2.1
abbrev xr (X : MX) : Option FieldType := X.2.2.2.1
abbrev xm (X : MX) : Room := X.2.2.2.2.1
abbrev xt (X : MX) : Tb := X.2.2.2.2.2
def xw (X : MX) : List Cond := Cond.code (xy X) (xc X) (xn X) (xr X) :: WB
/-- what is known of a method once for all -/
def Mk (X : MX) : Prop := TBk (xc X) (xt X) ∧ plainName (xy X).cls = true ∧ Cond.code (xy X) (xc X) (xn X) (xr X) ∈ WB ∧ ((xy X).cls ≠ "java/lang/invoke/MethodHandle" ∧ (xy X).cls ≠ "java/lang/invoke/VarHandle") ∧ (xm X).cells = 0 ∧ (xm X).slots = 0 ∧ Cond.initialized (xy X).cls ∈ WB
theorem gi_of {X Y : MX} (hY : Mk Y) : GoodIn (xw X) (xw Y) := by
  intro w hw
  rcases List.mem_cons.mp hw with rfl | hw
  · exact ⟨List.mem_cons_of_mem _ hY.2.2.1, good_of_word (List.mem_filter.mp hY.2.2.1).2⟩
  · exact ⟨List.mem_cons_of_mem _ hw, good_of_word (List.mem_filter.mp hw).2⟩
/-- nest mates' links: they stand over the warming of the tables -/
def nestW (w : Cond) : Bool := match w with
  | .fieldLinkNest .. => true
  | .methodLinkNest .. => true
  | _ => false
theorem NW_nest : ∀ w ∈ NW, nestW w = true := by
  intro w hw
  have h : NW.all nestW = true := by decide +kernel
  exact List.all_eq_true.mp h w hw
theorem nw_warm {s U : State} (hW : s.WarmedH U.vm) (h : ∀ w ∈ NW, va_Nw w s) : ∀ w ∈ NW, va_Nw w U := by
  intro w hw
  have h1 := h w hw
  have h2 := NW_nest w hw
  cases w <;> first | exact va_Nw.warmF hW h1 | exact va_Nw.warmM hW h1 | (exact absurd h2 (by simp [nestW]))
theorem nw_same {s U : State} (hv : s.vm = U.vm) (h : ∀ w ∈ NW, va_Nw w s) : ∀ w ∈ NW, va_Nw w U := by
  intro w hw
  have h1 := h w hw
  have h2 := NW_nest w hw
  cases w <;> first | exact va_Nw.same rfl hv h1 | (exact absurd h2 (by simp [nestW]))
def gQ (D : va_G) (ad : AD) (z : Zc) (post : Option PV → Mm → Prop) (A : Nat → Prop) : Array Value → State → Outcome → State → Prop := fun _ st oc t =>
  (∃ (r : Option PV) (M' : Mm), oc = .returned (r.map (tv ad)) ∧ post r M' ∧ va_P D classes (wd ad z M') t.heap ∧ va_K D classes (tz z) t ∧ va_D A (wd ad z M')) ∧ va_F A st t
def PreW (D : va_G) (ad : AD) (z : Zc) (M : Mm) (sz : Nat) (U : State) : Prop := U.heap.size = sz ∧ (∀ w ∈ NW, va_Nw w U) ∧ va_P D classes (wd ad z M) U.heap ∧ va_K D classes (tz z) U ∧ va_D (fun _ => True) (wd ad z M)
/-- the contract of a method of the machine -/
def Ev (l : Launch) (X : MX) (av : List PV) (M : Mm) (post : Option PV → Mm → Prop) : Prop :=
  ∀ (D : va_G) (ad : AD) (z : Zc) (sz : Nat), Met l (xy X) (xw X) (xm X) (va_Pc (smap ad av) (PreW D ad z M sz)) (gQ D ad z post (va_A (wd ad z M) sz)) 0 0 (va_A (wd ad z M) sz)
def Cx (X : MX) (D : va_G) (ad : AD) (z : Zc) (p : Program) (s : State) (m : MethodId) (args : Array Value) (meth : Method) (c : Code) (A : Nat → Prop) : Prop :=
  TBk (xc X) (xt X) ∧ CallFix p m c (xc X) (xn X) s args (xw X) (xy X).cls ∧ meth.sig.returnType = xr X ∧ meth.locks = false ∧ (∀ w ∈ NW, va_Nw w s) ∧ va_K D classes (tz z) s ∧ (∀ q, s.heap.size ≤ q → A q)
def Hw (D : va_G) (ad : AD) (z : Zc) (s : State) (A : Nat → Prop) (M : Mm) (H : Heap) (locs : List Loc) : Prop := va_P D classes (wd ad z M) H ∧ va_D A (wd ad z M) ∧ va_S A s.heap H locs
/-- the machine goes on from here to an end with 'post' -/
def Go (l : Launch) (X : MX) (post : Option PV → Mm → Prop) (pc : Nat) (L : List (Nat × PV)) (st : List PV) (M : Mm) : Prop :=
  ∀ (D : va_G) (ad : AD) (z : Zc) (p : Program) (e : Env) (s : State) (m : MethodId) (args : Array Value) (below : List Frame) (meth : Method) (c : Code) (H : Heap) (locs : List Loc) (ls : Array Slot) (A : Nat → Prop),
    Cx X D ad z p s m args meth c A → lv_has ls (xn X) (lmap ad L) → Hw D ad z s A M H locs → W p l e (xm X) s m args below meth c H locs 0 0 (MQ below (gQ D ad z post A) args s 0 0 A) (F0 m pc ls (smap ad st))
theorem Ev.of {l : Launch} {X : MX} {av : List PV} {M : Mm} {post : Option PV → Mm → Prop} (hX : Mk X) (L : List (Nat × PV)) (hL : ∀ ad : AD, lv_args 0 (smap ad av) = lmap ad L) (hn : ∀ ad : AD, (lg_sl (smap ad av)).length ≤ xn X) (g : Go l X post 0 L [] M) : Ev l X av M post := by
  intro D ad z sz
  refine Met.ofW (cc := xc X) (maxL := xn X) (ret := xr X) hX.2.1 rfl ?_
  intro p e s m args below meth c s₁ B hml hv
  obtain ⟨rfl, hsz, hN, hP, hK, hD0⟩ := hv
  subst hsz
  have hts := atoms_spec (ws := xw X) B.pre
  have hl := lv_entry (smap ad av) (n := xn X) (hn ad)
  rw [lg_entry_eq]
  generalize (lg_sl (smap ad av) ++ List.replicate (xn X - (lg_sl (smap ad av)).length) Slot.unset).toArray = ls at hl ⊢
  rw [hL ad] at hl
  exact g D ad z p e s m _ below meth c s.heap [] ls (va_A (wd ad z M) s.heap.size) ⟨hX.1, ⟨B.exec, B.bytes, hml, findClass_of_methodNamed B.named, hts⟩, B.returns, B.notSynchronized, hN, hK, fun q h => Or.inr h⟩ hl ⟨hP, hD0.self, va_S.rf⟩
section EN
variable {l : Launch} {X : MX} {post : Option PV → Mm → Prop} {pc pc' : Nat} {L : List (Nat × PV)} {st : List PV} {M : Mm}
theorem Go.mono {post' : Option PV → Mm → Prop} (h : ∀ r M', post' r M' → post r M') (g : Go l X post' pc L st M) : Go l X post pc L st M := by
  intro D ad z p e s m args below meth c H locs ls A C hl hW T hT S
  obtain ⟨t, a, o, b1, b2, b3, b4⟩ := g D ad z p e s m args below meth c H locs ls A C hl hW T hT S
  obtain ⟨⟨r, M', c1, c2, c3⟩, c4⟩ := b3
  exact ⟨t, a, o, b1, b2, ⟨⟨r, M', c1, h r M' c2, c3⟩, c4⟩, b4⟩
/-- fewer locals, or in another order: by their places -/
theorem go_sub (ks : List Nat) {L' : List (Nat × PV)} (h : ks.filterMap (fun k => L[k]?) = L') (g : Go l X post pc L' st M) : Go l X post pc L st M := by
  intro D ad z p e s m args below meth c H locs ls A C hl hW
  refine g D ad z p e s m args below meth c H locs ls A C ⟨hl.1, hl.2.1, fun q hq => hl.2.2 q ?_⟩ hW
  subst h
  obtain ⟨q0, h0, rfl⟩ := List.mem_map.mp hq
  obtain ⟨k, -, hk⟩ := List.mem_filterMap.mp h0
  exact List.mem_map.mpr ⟨q0, List.mem_of_getElem? hk, rfl⟩
theorem go_iadd {x y : Int32} (k : Nat) (hk : (xt X)[k]? = some (pc, .iadd, pc')) (g : Go l X post pc' L (vi (x + y) :: st) M) : Go l X post pc L (vi y :: vi x :: st) M := by
  intro D ad z p e s m args below meth c H locs ls A C hl hW
  obtain ⟨d, e1⟩ := C.1.at hk
  subst e1
  exact lv_iadd (x := x) (y := y) (rest := smap ad st) C.2.1.1 C.2.1.2.1 d (g D ad z p e s m args below meth c H locs ls A C hl hW)
theorem go_isub {x y : Int32} (k : Nat) (hk : (xt X)[k]? = some (pc, .isub, pc')) (g : Go l X post pc' L (vi (x - y) :: st) M) : Go l X post pc L (vi y :: vi x :: st) M := by
  intro D ad z p e s m args below meth c H locs ls A C hl hW
  obtain ⟨d, e1⟩ := C.1.at hk
  subst e1
  exact lv_isub (x := x) (y := y) (rest := smap ad st) C.2.1.1 C.2.1.2.1 d (g D ad z p e s m args below meth c H locs ls A C hl hW)
theorem go_imul {x y : Int32} (k : Nat) (hk : (xt X)[k]? = some (pc, .imul, pc')) (g : Go l X post pc' L (vi (x * y) :: st) M) : Go l X post pc L (vi y :: vi x :: st) M := by
  intro D ad z p e s m args below meth c H locs ls A C hl hW
  obtain ⟨d, e1⟩ := C.1.at hk
  subst e1
  exact lv_imul (x := x) (y := y) (rest := smap ad st) C.2.1.1 C.2.1.2.1 d (g D ad z p e s m args below meth c H locs ls A C hl hW)
theorem go_iand {x y : Int32} (k : Nat) (hk : (xt X)[k]? = some (pc, .iand, pc')) (g : Go l X post pc' L (vi (x &&& y) :: st) M) : Go l X post pc L (vi y :: vi x :: st) M := by
  intro D ad z p e s m args below meth c H locs ls A C hl hW
  obtain ⟨d, e1⟩ := C.1.at hk
  subst e1
  exact lv_iand (x := x) (y := y) (rest := smap ad st) C.2.1.1 C.2.1.2.1 d (g D ad z p e s m args below meth c H locs ls A C hl hW)
theorem go_ior {x y : Int32} (k : Nat) (hk : (xt X)[k]? = some (pc, .ior, pc')) (g : Go l X post pc' L (vi (x ||| y) :: st) M) : Go l X post pc L (vi y :: vi x :: st) M := by
  intro D ad z p e s m args below meth c H locs ls A C hl hW
  obtain ⟨d, e1⟩ := C.1.at hk
  subst e1
  exact lv_ior (x := x) (y := y) (rest := smap ad st) C.2.1.1 C.2.1.2.1 d (g D ad z p e s m args below meth c H locs ls A C hl hW)
theorem go_ixor {x y : Int32} (k : Nat) (hk : (xt X)[k]? = some (pc, .ixor, pc')) (g : Go l X post pc' L (vi (x ^^^ y) :: st) M) : Go l X post pc L (vi y :: vi x :: st) M := by
  intro D ad z p e s m args below meth c H locs ls A C hl hW
  obtain ⟨d, e1⟩ := C.1.at hk
  subst e1
  exact lv_ixor (x := x) (y := y) (rest := smap ad st) C.2.1.1 C.2.1.2.1 d (g D ad z p e s m args below meth c H locs ls A C hl hW)
theorem go_ishl {x y : Int32} (k : Nat) (hk : (xt X)[k]? = some (pc, .ishl, pc')) (g : Go l X post pc' L (vi (x <<< (y &&& 31)) :: st) M) : Go l X post pc L (vi y :: vi x :: st) M := by
  intro D ad z p e s m args below meth c H locs ls A C hl hW
  obtain ⟨d, e1⟩ := C.1.at hk
  subst e1
  exact lv_ishl (x := x) (y := y) (rest := smap ad st) C.2.1.1 C.2.1.2.1 d (g D ad z p e s m args below meth c H locs ls A C hl hW)
theorem go_ishr {x y : Int32} (k : Nat) (hk : (xt X)[k]? = some (pc, .ishr, pc')) (g : Go l X post pc' L (vi (x >>> (y &&& 31)) :: st) M) : Go l X post pc L (vi y :: vi x :: st) M := by
  intro D ad z p e s m args below meth c H locs ls A C hl hW
  obtain ⟨d, e1⟩ := C.1.at hk
  subst e1
  exact lv_ishr (x := x) (y := y) (rest := smap ad st) C.2.1.1 C.2.1.2.1 d (g D ad z p e s m args below meth c H locs ls A C hl hW)
theorem go_iushr {x y : Int32} (k : Nat) (hk : (xt X)[k]? = some (pc, .iushr, pc')) (g : Go l X post pc' L (vi ((x.toUInt32 >>> (y.toUInt32 &&& Int32.toUInt32 31)).toInt32) :: st) M) : Go l X post pc L (vi y :: vi x :: st) M := by
  intro D ad z p e s m args below meth c H locs ls A C hl hW
  obtain ⟨d, e1⟩ := C.1.at hk
  subst e1
  exact lv_iushr (x := x) (y := y) (rest := smap ad st) C.2.1.1 C.2.1.2.1 d rfl (g D ad z p e s m args below meth c H locs ls A C hl hW)
theorem go_idiv {x y : Int32} (k : Nat) (hk : (xt X)[k]? = some (pc, .idiv, pc')) (hne : ¬ y = 0) (g : Go l X post pc' L (vi (x / y) :: st) M) : Go l X post pc L (vi y :: vi x :: st) M := by
  intro D ad z p e s m args below meth c H locs ls A C hl hW
  obtain ⟨d, e1⟩ := C.1.at hk
  subst e1
  exact lv_idiv (x := x) (y := y) (rest := smap ad st) C.2.1.1 C.2.1.2.1 d hne (g D ad z p e s m args below meth c H locs ls A C hl hW)
theorem go_irem {x y : Int32} (k : Nat) (hk : (xt X)[k]? = some (pc, .irem, pc')) (hne : ¬ y = 0) (g : Go l X post pc' L (vi (x - x / y * y) :: st) M) : Go l X post pc L (vi y :: vi x :: st) M := by
  intro D ad z p e s m args below meth c H locs ls A C hl hW
  obtain ⟨d, e1⟩ := C.1.at hk
  subst e1
  exact lv_irem (x := x) (y := y) (rest := smap ad st) C.2.1.1 C.2.1.2.1 d hne (g D ad z p e s m args below meth c H locs ls A C hl hW)
theorem go_ineg {x : Int32} (k : Nat) (hk : (xt X)[k]? = some (pc, .ineg, pc')) (g : Go l X post pc' L (vi (-x) :: st) M) : Go l X post pc L (vi x :: st) M := by
  intro D ad z p e s m args below meth c H locs ls A C hl hW
  obtain ⟨d, e1⟩ := C.1.at hk
  subst e1
  exact lv_ineg (x := x) (rest := smap ad st) C.2.1.1 C.2.1.2.1 d (g D ad z p e s m args below meth c H locs ls A C hl hW)
theorem go_ladd {x y : Int64} (k : Nat) (hk : (xt X)[k]? = some (pc, .ladd, pc')) (g : Go l X post pc' L (vl (x + y) :: st) M) : Go l X post pc L (vl y :: vl x :: st) M := by
  intro D ad z p e s m args below meth c H locs ls A C hl hW
  obtain ⟨d, e1⟩ := C.1.at hk
  subst e1
  exact lv_ladd (x := x) (y := y) (rest := smap ad st) C.2.1.1 C.2.1.2.1 d (g D ad z p e s m args below meth c H locs ls A C hl hW)
theorem go_lsub {x y : Int64} (k : Nat) (hk : (xt X)[k]? = some (pc, .lsub, pc')) (g : Go l X post pc' L (vl (x - y) :: st) M) : Go l X post pc L (vl y :: vl x :: st) M := by
  intro D ad z p e s m args below meth c H locs ls A C hl hW
  obtain ⟨d, e1⟩ := C.1.at hk
  subst e1
  exact lv_lsub (x := x) (y := y) (rest := smap ad st) C.2.1.1 C.2.1.2.1 d (g D ad z p e s m args below meth c H locs ls A C hl hW)
theorem go_lmul {x y : Int64} (k : Nat) (hk : (xt X)[k]? = some (pc, .lmul, pc')) (g : Go l X post pc' L (vl (x * y) :: st) M) : Go l X post pc L (vl y :: vl x :: st) M := by
  intro D ad z p e s m args below meth c H locs ls A C hl hW
  obtain ⟨d, e1⟩ := C.1.at hk
  subst e1
  exact lv_lmul (x := x) (y := y) (rest := smap ad st) C.2.1.1 C.2.1.2.1 d (g D ad z p e s m args below meth c H locs ls A C hl hW)
theorem go_land {x y : Int64} (k : Nat) (hk : (xt X)[k]? = some (pc, .land, pc')) (g : Go l X post pc' L (vl (x &&& y) :: st) M) : Go l X post pc L (vl y :: vl x :: st) M := by
  intro D ad z p e s m args below meth c H locs ls A C hl hW
  obtain ⟨d, e1⟩ := C.1.at hk
  subst e1
  exact lv_land (x := x) (y := y) (rest := smap ad st) C.2.1.1 C.2.1.2.1 d (g D ad z p e s m args below meth c H locs ls A C hl hW)
theorem go_lor {x y : Int64} (k : Nat) (hk : (xt X)[k]? = some (pc, .lor, pc')) (g : Go l X post pc' L (vl (x ||| y) :: st) M) : Go l X post pc L (vl y :: vl x :: st) M := by
  intro D ad z p e s m args below meth c H locs ls A C hl hW
  obtain ⟨d, e1⟩ := C.1.at hk
  subst e1
  exact lv_lor (x := x) (y := y) (rest := smap ad st) C.2.1.1 C.2.1.2.1 d (g D ad z p e s m args below meth c H locs ls A C hl hW)
theorem go_lxor {x y : Int64} (k : Nat) (hk : (xt X)[k]? = some (pc, .lxor, pc')) (g : Go l X post pc' L (vl (x ^^^ y) :: st) M) : Go l X post pc L (vl y :: vl x :: st) M := by
  intro D ad z p e s m args below meth c H locs ls A C hl hW
  obtain ⟨d, e1⟩ := C.1.at hk
  subst e1
  exact lv_lxor (x := x) (y := y) (rest := smap ad st) C.2.1.1 C.2.1.2.1 d (g D ad z p e s m args below meth c H locs ls A C hl hW)
theorem go_lushr {x : Int64} {y : Int32} (k : Nat) (hk : (xt X)[k]? = some (pc, .lushr, pc')) (g : Go l X post pc' L (vl ((x.toUInt64 >>> (y.toInt64.toUInt64 &&& Int64.toUInt64 63)).toInt64) :: st) M) : Go l X post pc L (vi y :: vl x :: st) M := by
  intro D ad z p e s m args below meth c H locs ls A C hl hW
  obtain ⟨d, e1⟩ := C.1.at hk
  subst e1
  exact lv_lushr (x := x) (y := y) (rest := smap ad st) C.2.1.1 C.2.1.2.1 d rfl (g D ad z p e s m args below meth c H locs ls A C hl hW)
theorem go_lshl {x : Int64} {y : Int32} (k : Nat) (hk : (xt X)[k]? = some (pc, .lshl, pc')) (g : Go l X post pc' L (vl (x <<< (y.toInt64 &&& 63)) :: st) M) : Go l X post pc L (vi y :: vl x :: st) M := by
  intro D ad z p e s m args below meth c H locs ls A C hl hW
  obtain ⟨d, e1⟩ := C.1.at hk
  subst e1
  exact lv_lshl (x := x) (y := y) (rest := smap ad st) C.2.1.1 C.2.1.2.1 d rfl (g D ad z p e s m args below meth c H locs ls A C hl hW)
theorem go_lshr {x : Int64} {y : Int32} (k : Nat) (hk : (xt X)[k]? = some (pc, .lshr, pc')) (g : Go l X post pc' L (vl (x >>> (y.toInt64 &&& 63)) :: st) M) : Go l X post pc L (vi y :: vl x :: st) M := by
  intro D ad z p e s m args below meth c H locs ls A C hl hW
  obtain ⟨d, e1⟩ := C.1.at hk
  subst e1
  exact lv_lshr (x := x) (y := y) (rest := smap ad st) C.2.1.1 C.2.1.2.1 d rfl (g D ad z p e s m args below meth c H locs ls A C hl hW)
theorem go_i2l {x : Int32} (k : Nat) (hk : (xt X)[k]? = some (pc, .i2l, pc')) (g : Go l X post pc' L (vl x.toInt64 :: st) M) : Go l X post pc L (vi x :: st) M := by
  intro D ad z p e s m args below meth c H locs ls A C hl hW
  obtain ⟨d, e1⟩ := C.1.at hk
  subst e1
  exact lv_i2l (x := x) (rest := smap ad st) C.2.1.1 C.2.1.2.1 d rfl (g D ad z p e s m args below meth c H locs ls A C hl hW)
theorem go_l2i {x : Int64} (k : Nat) (hk : (xt X)[k]? = some (pc, .l2i, pc')) (g : Go l X post pc' L (vi x.toInt32 :: st) M) : Go l X post pc L (vl x :: st) M := by
  intro D ad z p e s m args below meth c H locs ls A C hl hW
  obtain ⟨d, e1⟩ := C.1.at hk
  subst e1
  exact lv_l2i (x := x) (rest := smap ad st) C.2.1.1 C.2.1.2.1 d rfl (g D ad z p e s m args below meth c H locs ls A C hl hW)
theorem go_lcmp {x y : Int64} (k : Nat) (hk : (xt X)[k]? = some (pc, .lcmp, pc')) (g : Go l X post pc' L (vi (lg_cmp x y) :: st) M) : Go l X post pc L (vl y :: vl x :: st) M := by
  intro D ad z p e s m args below meth c H locs ls A C hl hW
  obtain ⟨d, e1⟩ := C.1.at hk
  subst e1
  exact W.lcmp (x := x) (y := y) (rest := smap ad st) C.2.1.1 C.2.1.2.1 d (g D ad z p e s m args below meth c H locs ls A C hl hW)
theorem go_iconst {n : Int} (v : Int32) (k : Nat) (hk : (xt X)[k]? = some (pc, .iconst n, pc')) (hv : Int32.ofInt n = v) (g : Go l X post pc' L (vi v :: st) M) : Go l X post pc L (st) M := by
  intro D ad z p e s m args below meth c H locs ls A C hl hW
  obtain ⟨d, e1⟩ := C.1.at hk
  subst e1
  exact lv_iconst (rest := smap ad st) C.2.1.1 C.2.1.2.1 d hv (g D ad z p e s m args below meth c H locs ls A C hl hW)
theorem go_bipush {n : Int} (v : Int32) (k : Nat) (hk : (xt X)[k]? = some (pc, .bipush n, pc')) (hv : (Int8.ofInt n).toInt32 = v) (g : Go l X post pc' L (vi v :: st) M) : Go l X post pc L (st) M := by
  intro D ad z p e s m args below meth c H locs ls A C hl hW
  obtain ⟨d, e1⟩ := C.1.at hk
  subst e1
  exact lv_bipush (rest := smap ad st) C.2.1.1 C.2.1.2.1 d hv (g D ad z p e s m args below meth c H locs ls A C hl hW)
theorem go_sipush {n : Int} (v : Int32) (k : Nat) (hk : (xt X)[k]? = some (pc, .sipush n, pc')) (hv : (Int16.ofInt n).toInt32 = v) (g : Go l X post pc' L (vi v :: st) M) : Go l X post pc L (st) M := by
  intro D ad z p e s m args below meth c H locs ls A C hl hW
  obtain ⟨d, e1⟩ := C.1.at hk
  subst e1
  exact lv_sipush (rest := smap ad st) C.2.1.1 C.2.1.2.1 d hv (g D ad z p e s m args below meth c H locs ls A C hl hW)
theorem go_lconst {n : Fin 2} (v : Int64) (k : Nat) (hk : (xt X)[k]? = some (pc, .lconst n, pc')) (hv : Int64.ofNat (n : Nat) = v) (g : Go l X post pc' L (vl v :: st) M) : Go l X post pc L (st) M := by
  intro D ad z p e s m args below meth c H locs ls A C hl hW
  obtain ⟨d, e1⟩ := C.1.at hk
  subst e1
  exact lv_lconst (rest := smap ad st) C.2.1.1 C.2.1.2.1 d hv (g D ad z p e s m args below meth c H locs ls A C hl hW)
theorem go_ldc {n : Nat} (v : Int32) (k : Nat) (hk : (xt X)[k]? = some (pc, .ldc n, pc')) (hv : Cond.constant (xy X).cls n v ∈ WB) (g : Go l X post pc' L (vi v :: st) M) : Go l X post pc L (st) M := by
  intro D ad z p e s m args below meth c H locs ls A C hl hW
  obtain ⟨d, e1⟩ := C.1.at hk
  subst e1
  exact lv_ldc (rest := smap ad st) C.2.1.1 C.2.1.2.1 C.2.1.2.2.2.1 (C.2.1.2.2.2.2 _ (List.mem_cons_of_mem _ hv)) d (g D ad z p e s m args below meth c H locs ls A C hl hW)
theorem go_ldcw {n : Nat} (v : Int32) (k : Nat) (hk : (xt X)[k]? = some (pc, .ldc_w n, pc')) (hv : Cond.constant (xy X).cls n v ∈ WB) (g : Go l X post pc' L (vi v :: st) M) : Go l X post pc L (st) M := by
  intro D ad z p e s m args below meth c H locs ls A C hl hW
  obtain ⟨d, e1⟩ := C.1.at hk
  subst e1
  exact lv_ldcw (rest := smap ad st) C.2.1.1 C.2.1.2.1 C.2.1.2.2.2.1 (C.2.1.2.2.2.2 _ (List.mem_cons_of_mem _ hv)) d (g D ad z p e s m args below meth c H locs ls A C hl hW)
theorem go_ldc2 {n : Nat} (v : Int64) (k : Nat) (hk : (xt X)[k]? = some (pc, .ldc2_w n, pc')) (hv : Cond.constantLong (xy X).cls n v ∈ WB) (g : Go l X post pc' L (vl v :: st) M) : Go l X post pc L (st) M := by
  intro D ad z p e s m args below meth c H locs ls A C hl hW
  obtain ⟨d, e1⟩ := C.1.at hk
  subst e1
  exact lv_ldc2 (rest := smap ad st) C.2.1.1 C.2.1.2.1 C.2.1.2.2.2.1 (C.2.1.2.2.2.2 _ (List.mem_cons_of_mem _ hv)) d (g D ad z p e s m args below meth c H locs ls A C hl hW)
theorem lm_at {ad : AD} {ls : Array Slot} {n j i : Nat} {v : PV} (hl : lv_has ls n (lmap ad L)) (hj : L[j]? = some (i, v)) : ls[i]? = some (.val (tv ad v)) := lv_at hl j (by simp [lmap, hj])
theorem go_iload_n {n : Fin 4} {i : Nat} {x : Int32} (k : Nat) (hk : (xt X)[k]? = some (pc, .iload_n n, pc')) (j : Nat) (hj : L[j]? = some (i, vi x)) (hi : (n : Nat) = i) (g : Go l X post pc' L (vi x :: st) M) : Go l X post pc L (st) M := by
  intro D ad z p e s m args below meth c H locs ls A C hl hW
  obtain ⟨d, e1⟩ := C.1.at hk
  subst e1
  exact lv_iload_n (rest := smap ad st) C.2.1.1 C.2.1.2.1 d hi (lm_at hl hj) (g D ad z p e s m args below meth c H locs ls A C hl hW)
theorem go_iload {i : Nat} {x : Int32} (k : Nat) (hk : (xt X)[k]? = some (pc, .iload i, pc')) (j : Nat) (hj : L[j]? = some (i, vi x)) (g : Go l X post pc' L (vi x :: st) M) : Go l X post pc L (st) M := by
  intro D ad z p e s m args below meth c H locs ls A C hl hW
  obtain ⟨d, e1⟩ := C.1.at hk
  subst e1
  exact lv_iload (rest := smap ad st) C.2.1.1 C.2.1.2.1 d (lm_at hl hj) (g D ad z p e s m args below meth c H locs ls A C hl hW)
theorem go_lload_n {n : Fin 4} {i : Nat} {x : Int64} (k : Nat) (hk : (xt X)[k]? = some (pc, .lload_n n, pc')) (j : Nat) (hj : L[j]? = some (i, vl x)) (hi : (n : Nat) = i) (g : Go l X post pc' L (vl x :: st) M) : Go l X post pc L (st) M := by
  intro D ad z p e s m args below meth c H locs ls A C hl hW
  obtain ⟨d, e1⟩ := C.1.at hk
  subst e1
  exact lv_lload_n (rest := smap ad st) C.2.1.1 C.2.1.2.1 d hi (lm_at hl hj) (g D ad z p e s m args below meth c H locs ls A C hl hW)
theorem go_lload {i : Nat} {x : Int64} (k : Nat) (hk : (xt X)[k]? = some (pc, .lload i, pc')) (j : Nat) (hj : L[j]? = some (i, vl x)) (g : Go l X post pc' L (vl x :: st) M) : Go l X post pc L (st) M := by
  intro D ad z p e s m args below meth c H locs ls A C hl hW
  obtain ⟨d, e1⟩ := C.1.at hk
  subst e1
  exact lv_lload (rest := smap ad st) C.2.1.1 C.2.1.2.1 d (lm_at hl hj) (g D ad z p e s m args below meth c H locs ls A C hl hW)
theorem go_aload_n {n : Fin 4} {i a b : Nat} (k : Nat) (hk : (xt X)[k]? = some (pc, .aload_n n, pc')) (j : Nat) (hj : L[j]? = some (i, vr a b)) (hi : (n : Nat) = i) (g : Go l X post pc' L (vr a b :: st) M) : Go l X post pc L (st) M := by
  intro D ad z p e s m args below meth c H locs ls A C hl hW
  obtain ⟨d, e1⟩ := C.1.at hk
  subst e1
  exact lv_aload_n (rest := smap ad st) C.2.1.1 C.2.1.2.1 d hi (lm_at hl hj) (g D ad z p e s m args below meth c H locs ls A C hl hW)
theorem go_aload {i a b : Nat} (k : Nat) (hk : (xt X)[k]? = some (pc, .aload i, pc')) (j : Nat) (hj : L[j]? = some (i, vr a b)) (g : Go l X post pc' L (vr a b :: st) M) : Go l X post pc L (st) M := by
  intro D ad z p e s m args below meth c H locs ls A C hl hW
  obtain ⟨d, e1⟩ := C.1.at hk
  subst e1
  exact lv_aload (rest := smap ad st) C.2.1.1 C.2.1.2.1 d (lm_at hl hj) (g D ad z p e s m args below meth c H locs ls A C hl hW)
/-- a local is set: in its place, or behind; a long takes two places -/
def lclob (i w : Nat) (q : Nat × PV) : Bool := !(q.1 == i) && (!(w == 2 && q.1 == i + 1) && !(q.1 + 1 == i && pcat q.2 == 2))
def lset : List (Nat × PV) → Nat → PV → List (Nat × PV)
  | [], i, v => [(i, v)]
  | q :: L, i, v => if q.1 = i then (i, v) :: L.filter (lclob i (pcat v)) else if lclob i (pcat v) q = true then q :: lset L i v else lset L i v
theorem lset_mem : ∀ (L : List (Nat × PV)) (i : Nat) (v : PV) (q : Nat × PV), q ∈ lset L i v → q = (i, v) ∨ (q ∈ L ∧ lclob i (pcat v) q = true)
  | [], i, v, q, h => Or.inl (by simpa [lset] using h)
  | a :: L, i, v, q, h => by
    unfold lset at h
    by_cases h1 : a.1 = i
    · rw [if_pos h1] at h
      rcases List.mem_cons.mp h with h | h
      · exact Or.inl h
      · exact Or.inr ⟨List.mem_cons_of_mem _ (List.mem_filter.mp h).1, (List.mem_filter.mp h).2⟩
    · rw [if_neg h1] at h
      by_cases h2 : lclob i (pcat v) a = true
      · rw [if_pos h2] at h
        rcases List.mem_cons.mp h with h | h
        · subst h
          exact Or.inr ⟨List.mem_cons_self, h2⟩
        · rcases lset_mem L i v q h with h | h
          · exact Or.inl h
          · exact Or.inr ⟨List.mem_cons_of_mem _ h.1, h.2⟩
      · rw [if_neg h2] at h
        rcases lset_mem L i v q h with h | h
        · exact Or.inl h
        · exact Or.inr ⟨List.mem_cons_of_mem _ h.1, h.2⟩
theorem lset_has {ad : AD} {ls : Array Slot} {n i : Nat} {v : PV} {l1 : List (Nat × Value)} (h : lv_has ls n l1) (h1 : ∀ q, q ∈ L → lclob i (pcat v) q = true → (q.1, tv ad q.2) ∈ l1) (h2 : (i, tv ad v) ∈ l1) : lv_has ls n (lmap ad (lset L i v)) := by
  refine ⟨h.1, h.2.1, fun q hq => h.2.2 q ?_⟩
  obtain ⟨q0, h0, rfl⟩ := List.mem_map.mp hq
  rcases lset_mem L i v q0 h0 with rfl | ⟨a, b⟩
  · exact h2
  · exact h1 q0 a b
theorem lset_1 {ad : AD} {ls : Array Slot} {n i : Nat} {v : PV} (hv : pcat v = 1) (h : lv_has ls n ((i, tv ad v) :: (lmap ad L).filter (fun q => !(q.1 == i) && !(q.1 + 1 == i && q.2.category == 2)))) : lv_has ls n (lmap ad (lset L i v)) := by
  refine lset_has h (fun q hq hc => ?_) List.mem_cons_self
  refine List.mem_cons_of_mem _ (List.mem_filter.mpr ⟨List.mem_map.mpr ⟨q, hq, rfl⟩, ?_⟩)
  rw [hv] at hc
  simp only [lclob, tv_cat] at hc ⊢
  simpa using hc
theorem lset_2 {ad : AD} {ls : Array Slot} {n i : Nat} {v : PV} (hv : pcat v = 2) (h : lv_has ls n ((i, tv ad v) :: (lmap ad L).filter (fun q => !(q.1 == i) && (!(q.1 == i + 1) && !(q.1 + 1 == i && q.2.category == 2))))) : lv_has ls n (lmap ad (lset L i v)) := by
  refine lset_has h (fun q hq hc => ?_) List.mem_cons_self
  refine List.mem_cons_of_mem _ (List.mem_filter.mpr ⟨List.mem_map.mpr ⟨q, hq, rfl⟩, ?_⟩)
  rw [hv] at hc
  simp only [lclob, tv_cat] at hc ⊢
  simpa using hc
theorem go_istore_n {n : Fin 4} {i : Nat} {x : Int32} (k : Nat) (hk : (xt X)[k]? = some (pc, .istore_n n, pc')) (hn : (n : Nat) = i) (hi : i < xn X) (L' : List (Nat × PV)) (hL : lset L i (vi x) = L') (g : Go l X post pc' L' st M) : Go l X post pc L (vi x :: st) M := by
  intro D ad z p e s m args below meth c H locs ls A C hl hW
  obtain ⟨d, e1⟩ := C.1.at hk
  subst e1
  subst hL
  exact lv_istore_n (rest := smap ad st) C.2.1.1 C.2.1.2.1 d hn hl hi rfl (fun ls2 h2 => g D ad z p e s m args below meth c H locs ls2 A C (lset_1 rfl h2) hW)
theorem go_istore {i : Nat} {x : Int32} (k : Nat) (hk : (xt X)[k]? = some (pc, .istore i, pc')) (hi : i < xn X) (L' : List (Nat × PV)) (hL : lset L i (vi x) = L') (g : Go l X post pc' L' st M) : Go l X post pc L (vi x :: st) M := by
  intro D ad z p e s m args below meth c H locs ls A C hl hW
  obtain ⟨d, e1⟩ := C.1.at hk
  subst e1
  subst hL
  exact lv_istore (rest := smap ad st) C.2.1.1 C.2.1.2.1 d hl hi rfl (fun ls2 h2 => g D ad z p e s m args below meth c H locs ls2 A C (lset_1 rfl h2) hW)
theorem go_lstore_n {n : Fin 4} {i : Nat} {x : Int64} (k : Nat) (hk : (xt X)[k]? = some (pc, .lstore_n n, pc')) (hn : (n : Nat) = i) (hi : i + 1 < xn X) (L' : List (Nat × PV)) (hL : lset L i (vl x) = L') (g : Go l X post pc' L' st M) : Go l X post pc L (vl x :: st) M := by
  intro D ad z p e s m args below meth c H locs ls A C hl hW
  obtain ⟨d, e1⟩ := C.1.at hk
  subst e1
  subst hL
  exact lv_lstore_n (rest := smap ad st) C.2.1.1 C.2.1.2.1 d hn hl hi rfl (fun ls2 h2 => g D ad z p e s m args below meth c H locs ls2 A C (lset_2 rfl h2) hW)
theorem go_lstore {i : Nat} {x : Int64} (k : Nat) (hk : (xt X)[k]? = some (pc, .lstore i, pc')) (hi : i + 1 < xn X) (L' : List (Nat × PV)) (hL : lset L i (vl x) = L') (g : Go l X post pc' L' st M) : Go l X post pc L (vl x :: st) M := by
  intro D ad z p e s m args below meth c H locs ls A C hl hW
  obtain ⟨d, e1⟩ := C.1.at hk
  subst e1
  subst hL
  exact lv_lstore (rest := smap ad st) C.2.1.1 C.2.1.2.1 d hl hi rfl (fun ls2 h2 => g D ad z p e s m args below meth c H locs ls2 A C (lset_2 rfl h2) hW)
theorem go_astore_n {n : Fin 4} {i : Nat} {a b : Nat} (k : Nat) (hk : (xt X)[k]? = some (pc, .astore_n n, pc')) (hn : (n : Nat) = i) (hi : i < xn X) (L' : List (Nat × PV)) (hL : lset L i (vr a b) = L') (g : Go l X post pc' L' st M) : Go l X post pc L (vr a b :: st) M := by
  intro D ad z p e s m args below meth c H locs ls A C hl hW
  obtain ⟨d, e1⟩ := C.1.at hk
  subst e1
  subst hL
  exact lv_astore_n (rest := smap ad st) C.2.1.1 C.2.1.2.1 d hn hl hi rfl (fun ls2 h2 => g D ad z p e s m args below meth c H locs ls2 A C (lset_1 rfl h2) hW)
theorem go_astore {i : Nat} {a b : Nat} (k : Nat) (hk : (xt X)[k]? = some (pc, .astore i, pc')) (hi : i < xn X) (L' : List (Nat × PV)) (hL : lset L i (vr a b) = L') (g : Go l X post pc' L' st M) : Go l X post pc L (vr a b :: st) M := by
  intro D ad z p e s m args below meth c H locs ls A C hl hW
  obtain ⟨d, e1⟩ := C.1.at hk
  subst e1
  subst hL
  exact lv_astore (rest := smap ad st) C.2.1.1 C.2.1.2.1 d hl hi rfl (fun ls2 h2 => g D ad z p e s m args below meth c H locs ls2 A C (lset_1 rfl h2) hW)
theorem go_iinc {i : Nat} {n : Int} {x : Int32} (dd : Int32) (k : Nat) (hk : (xt X)[k]? = some (pc, .iinc i n, pc')) (j : Nat) (hj : L[j]? = some (i, vi x)) (hd : Int32.ofInt n = dd) (hi : i < xn X) (L' : List (Nat × PV)) (hL : lset L i (vi (x + dd)) = L') (g : Go l X post pc' L' st M) : Go l X post pc L st M := by
  intro D ad z p e s m args below meth c H locs ls A C hl hW
  obtain ⟨d, e1⟩ := C.1.at hk
  subst e1
  subst hL
  subst hd
  exact lv_iinc (rest := smap ad st) C.2.1.1 C.2.1.2.1 d hl (k := j) (x := x) (by simp [lmap, hj, tv]) rfl hi rfl (fun ls2 h2 => g D ad z p e s m args below meth c H locs ls2 A C (lset_1 rfl h2) hW)
theorem sm_cat {ad : AD} {v : PV} {w : Nat} (h : pcat v = w) : (tv ad v).category = w := by rw [tv_cat]; exact h
theorem go_dup {v : PV} (k : Nat) (hk : (xt X)[k]? = some (pc, .dup, pc')) (hv : pcat v = 1) (g : Go l X post pc' L (v :: v :: st) M) : Go l X post pc L (v :: st) M := by
  intro D ad z p e s m args below meth c H locs ls A C hl hW
  obtain ⟨d, e1⟩ := C.1.at hk
  subst e1
  exact lv_dup (va := tv ad v) (rest := smap ad st) C.2.1.1 C.2.1.2.1 d (sm_cat hv) (g D ad z p e s m args below meth c H locs ls A C hl hW)
theorem go_pop {v : PV} (k : Nat) (hk : (xt X)[k]? = some (pc, .pop, pc')) (hv : pcat v = 1) (g : Go l X post pc' L (st) M) : Go l X post pc L (v :: st) M := by
  intro D ad z p e s m args below meth c H locs ls A C hl hW
  obtain ⟨d, e1⟩ := C.1.at hk
  subst e1
  exact lv_pop (va := tv ad v) (rest := smap ad st) C.2.1.1 C.2.1.2.1 d (sm_cat hv) (g D ad z p e s m args below meth c H locs ls A C hl hW)
theorem go_dup_x1 {v u : PV} (k : Nat) (hk : (xt X)[k]? = some (pc, .dup_x1, pc')) (hv : pcat v = 1) (hu : pcat u = 1) (g : Go l X post pc' L (v :: u :: v :: st) M) : Go l X post pc L (v :: u :: st) M := by
  intro D ad z p e s m args below meth c H locs ls A C hl hW
  obtain ⟨d, e1⟩ := C.1.at hk
  subst e1
  exact lv_dup_x1 (va := tv ad v) (vb := tv ad u) (rest := smap ad st) C.2.1.1 C.2.1.2.1 d (sm_cat hv) (sm_cat hu) (g D ad z p e s m args below meth c H locs ls A C hl hW)
theorem go_dup_x2 {v u w : PV} (k : Nat) (hk : (xt X)[k]? = some (pc, .dup_x2, pc')) (hv : pcat v = 1) (hu : pcat u = 1) (hw : pcat w = 1) (g : Go l X post pc' L (v :: u :: w :: v :: st) M) : Go l X post pc L (v :: u :: w :: st) M := by
  intro D ad z p e s m args below meth c H locs ls A C hl hW
  obtain ⟨d, e1⟩ := C.1.at hk
  subst e1
  exact lv_dup_x2 (va := tv ad v) (vb := tv ad u) (vd := tv ad w) (rest := smap ad st) C.2.1.1 C.2.1.2.1 d (sm_cat hv) (sm_cat hu) (sm_cat hw) (g D ad z p e s m args below meth c H locs ls A C hl hW)
theorem go_dup2 {v u : PV} (k : Nat) (hk : (xt X)[k]? = some (pc, .dup2, pc')) (hv : pcat v = 1) (hu : pcat u = 1) (g : Go l X post pc' L (v :: u :: v :: u :: st) M) : Go l X post pc L (v :: u :: st) M := by
  intro D ad z p e s m args below meth c H locs ls A C hl hW
  obtain ⟨d, e1⟩ := C.1.at hk
  subst e1
  exact lv_dup2_11 (va := tv ad v) (vb := tv ad u) (rest := smap ad st) C.2.1.1 C.2.1.2.1 d (sm_cat hv) (sm_cat hu) (g D ad z p e s m args below meth c H locs ls A C hl hW)
theorem go_dup2l {v : PV} (k : Nat) (hk : (xt X)[k]? = some (pc, .dup2, pc')) (hv : pcat v = 2) (g : Go l X post pc' L (v :: v :: st) M) : Go l X post pc L (v :: st) M := by
  intro D ad z p e s m args below meth c H locs ls A C hl hW
  obtain ⟨d, e1⟩ := C.1.at hk
  subst e1
  exact lv_dup2_2 (va := tv ad v) (rest := smap ad st) C.2.1.1 C.2.1.2.1 d (sm_cat hv) (g D ad z p e s m args below meth c H locs ls A C hl hW)
theorem go_pop2l {v : PV} (k : Nat) (hk : (xt X)[k]? = some (pc, .pop2, pc')) (hv : pcat v = 2) (g : Go l X post pc' L (st) M) : Go l X post pc L (v :: st) M := by
  intro D ad z p e s m args below meth c H locs ls A C hl hW
  obtain ⟨d, e1⟩ := C.1.at hk
  subst e1
  exact lv_pop2_2 (va := tv ad v) (rest := smap ad st) C.2.1.1 C.2.1.2.1 d (sm_cat hv) (g D ad z p e s m args below meth c H locs ls A C hl hW)
theorem go_if_eq {x : Int32} {off : Int} (tgt : Nat) (k : Nat) (hk : (xt X)[k]? = some (pc, .ifCond .eq off, pc')) (ht : (pc : Int) + off = (tgt : Int)) (kt : x = 0 → Go l X post tgt L st M) (kf : ¬ x = 0 → Go l X post pc' L st M) : Go l X post pc L (vi x :: st) M := by
  intro D ad z p e s m args below meth c H locs ls A C hl hW
  obtain ⟨d, e1⟩ := C.1.at hk
  subst e1
  exact lv_if_eq (rest := smap ad st) C.2.1.1 C.2.1.2.1 d ht (fun h => kt h D ad z p e s m args below meth c H locs ls A C hl hW) (fun h => kf h D ad z p e s m args below meth c H locs ls A C hl hW)
theorem go_icmp_eq {x y : Int32} {off : Int} (tgt : Nat) (k : Nat) (hk : (xt X)[k]? = some (pc, .if_icmp .eq off, pc')) (ht : (pc : Int) + off = (tgt : Int)) (kt : x = y → Go l X post tgt L st M) (kf : ¬ x = y → Go l X post pc' L st M) : Go l X post pc L (vi y :: vi x :: st) M := by
  intro D ad z p e s m args below meth c H locs ls A C hl hW
  obtain ⟨d, e1⟩ := C.1.at hk
  subst e1
  exact lv_icmp_eq (rest := smap ad st) C.2.1.1 C.2.1.2.1 d ht (fun h => kt h D ad z p e s m args below meth c H locs ls A C hl hW) (fun h => kf h D ad z p e s m args below meth c H locs ls A C hl hW)
theorem go_if_ne {x : Int32} {off : Int} (tgt : Nat) (k : Nat) (hk : (xt X)[k]? = some (pc, .ifCond .ne off, pc')) (ht : (pc : Int) + off = (tgt : Int)) (kt : ¬ x = 0 → Go l X post tgt L st M) (kf : x = 0 → Go l X post pc' L st M) : Go l X post pc L (vi x :: st) M := by
  intro D ad z p e s m args below meth c H locs ls A C hl hW
  obtain ⟨d, e1⟩ := C.1.at hk
  subst e1
  exact lv_if_ne (rest := smap ad st) C.2.1.1 C.2.1.2.1 d ht (fun h => kt h D ad z p e s m args below meth c H locs ls A C hl hW) (fun h => kf h D ad z p e s m args below meth c H locs ls A C hl hW)
theorem go_icmp_ne {x y : Int32} {off : Int} (tgt : Nat) (k : Nat) (hk : (xt X)[k]? = some (pc, .if_icmp .ne off, pc')) (ht : (pc : Int) + off = (tgt : Int)) (kt : ¬ x = y → Go l X post tgt L st M) (kf : x = y → Go l X post pc' L st M) : Go l X post pc L (vi y :: vi x :: st) M := by
  intro D ad z p e s m args below meth c H locs ls A C hl hW
  obtain ⟨d, e1⟩ := C.1.at hk
  subst e1
  exact lv_icmp_ne (rest := smap ad st) C.2.1.1 C.2.1.2.1 d ht (fun h => kt h D ad z p e s m args below meth c H locs ls A C hl hW) (fun h => kf h D ad z p e s m args below meth c H locs ls A C hl hW)
theorem go_if_lt {x : Int32} {off : Int} (tgt : Nat) (k : Nat) (hk : (xt X)[k]? = some (pc, .ifCond .lt off, pc')) (ht : (pc : Int) + off = (tgt : Int)) (kt : x < 0 → Go l X post tgt L st M) (kf : ¬ x < 0 → Go l X post pc' L st M) : Go l X post pc L (vi x :: st) M := by
  intro D ad z p e s m args below meth c H locs ls A C hl hW
  obtain ⟨d, e1⟩ := C.1.at hk
  subst e1
  exact lv_if_lt (rest := smap ad st) C.2.1.1 C.2.1.2.1 d ht (fun h => kt h D ad z p e s m args below meth c H locs ls A C hl hW) (fun h => kf h D ad z p e s m args below meth c H locs ls A C hl hW)
theorem go_icmp_lt {x y : Int32} {off : Int} (tgt : Nat) (k : Nat) (hk : (xt X)[k]? = some (pc, .if_icmp .lt off, pc')) (ht : (pc : Int) + off = (tgt : Int)) (kt : x < y → Go l X post tgt L st M) (kf : ¬ x < y → Go l X post pc' L st M) : Go l X post pc L (vi y :: vi x :: st) M := by
  intro D ad z p e s m args below meth c H locs ls A C hl hW
  obtain ⟨d, e1⟩ := C.1.at hk
  subst e1
  exact lv_icmp_lt (rest := smap ad st) C.2.1.1 C.2.1.2.1 d ht (fun h => kt h D ad z p e s m args below meth c H locs ls A C hl hW) (fun h => kf h D ad z p e s m args below meth c H locs ls A C hl hW)
theorem go_if_ge {x : Int32} {off : Int} (tgt : Nat) (k : Nat) (hk : (xt X)[k]? = some (pc, .ifCond .ge off, pc')) (ht : (pc : Int) + off = (tgt : Int)) (kt : 0 ≤ x → Go l X post tgt L st M) (kf : ¬ 0 ≤ x → Go l X post pc' L st M) : Go l X post pc L (vi x :: st) M := by
  intro D ad z p e s m args below meth c H locs ls A C hl hW
  obtain ⟨d, e1⟩ := C.1.at hk
  subst e1
  exact lv_if_ge (rest := smap ad st) C.2.1.1 C.2.1.2.1 d ht (fun h => kt h D ad z p e s m args below meth c H locs ls A C hl hW) (fun h => kf h D ad z p e s m args below meth c H locs ls A C hl hW)
theorem go_icmp_ge {x y : Int32} {off : Int} (tgt : Nat) (k : Nat) (hk : (xt X)[k]? = some (pc, .if_icmp .ge off, pc')) (ht : (pc : Int) + off = (tgt : Int)) (kt : y ≤ x → Go l X post tgt L st M) (kf : ¬ y ≤ x → Go l X post pc' L st M) : Go l X post pc L (vi y :: vi x :: st) M := by
  intro D ad z p e s m args below meth c H locs ls A C hl hW
  obtain ⟨d, e1⟩ := C.1.at hk
  subst e1
  exact lv_icmp_ge (rest := smap ad st) C.2.1.1 C.2.1.2.1 d ht (fun h => kt h D ad z p e s m args below meth c H locs ls A C hl hW) (fun h => kf h D ad z p e s m args below meth c H locs ls A C hl hW)
theorem go_if_gt {x : Int32} {off : Int} (tgt : Nat) (k : Nat) (hk : (xt X)[k]? = some (pc, .ifCond .gt off, pc')) (ht : (pc : Int) + off = (tgt : Int)) (kt : 0 < x → Go l X post tgt L st M) (kf : ¬ 0 < x → Go l X post pc' L st M) : Go l X post pc L (vi x :: st) M := by
  intro D ad z p e s m args below meth c H locs ls A C hl hW
  obtain ⟨d, e1⟩ := C.1.at hk
  subst e1
  exact lv_if_gt (rest := smap ad st) C.2.1.1 C.2.1.2.1 d ht (fun h => kt h D ad z p e s m args below meth c H locs ls A C hl hW) (fun h => kf h D ad z p e s m args below meth c H locs ls A C hl hW)
theorem go_icmp_gt {x y : Int32} {off : Int} (tgt : Nat) (k : Nat) (hk : (xt X)[k]? = some (pc, .if_icmp .gt off, pc')) (ht : (pc : Int) + off = (tgt : Int)) (kt : y < x → Go l X post tgt L st M) (kf : ¬ y < x → Go l X post pc' L st M) : Go l X post pc L (vi y :: vi x :: st) M := by
  intro D ad z p e s m args below meth c H locs ls A C hl hW
  obtain ⟨d, e1⟩ := C.1.at hk
  subst e1
  exact lv_icmp_gt (rest := smap ad st) C.2.1.1 C.2.1.2.1 d ht (fun h => kt h D ad z p e s m args below meth c H locs ls A C hl hW) (fun h => kf h D ad z p e s m args below meth c H locs ls A C hl hW)
theorem go_if_le {x : Int32} {off : Int} (tgt : Nat) (k : Nat) (hk : (xt X)[k]? = some (pc, .ifCond .le off, pc')) (ht : (pc : Int) + off = (tgt : Int)) (kt : x ≤ 0 → Go l X post tgt L st M) (kf : ¬ x ≤ 0 → Go l X post pc' L st M) : Go l X post pc L (vi x :: st) M := by
  intro D ad z p e s m args below meth c H locs ls A C hl hW
  obtain ⟨d, e1⟩ := C.1.at hk
  subst e1
  exact lv_if_le (rest := smap ad st) C.2.1.1 C.2.1.2.1 d ht (fun h => kt h D ad z p e s m args below meth c H locs ls A C hl hW) (fun h => kf h D ad z p e s m args below meth c H locs ls A C hl hW)
theorem go_icmp_le {x y : Int32} {off : Int} (tgt : Nat) (k : Nat) (hk : (xt X)[k]? = some (pc, .if_icmp .le off, pc')) (ht : (pc : Int) + off = (tgt : Int)) (kt : x ≤ y → Go l X post tgt L st M) (kf : ¬ x ≤ y → Go l X post pc' L st M) : Go l X post pc L (vi y :: vi x :: st) M := by
  intro D ad z p e s m args below meth c H locs ls A C hl hW
  obtain ⟨d, e1⟩ := C.1.at hk
  subst e1
  exact lv_icmp_le (rest := smap ad st) C.2.1.1 C.2.1.2.1 d ht (fun h => kt h D ad z p e s m args below meth c H locs ls A C hl hW) (fun h => kf h D ad z p e s m args below meth c H locs ls A C hl hW)
theorem go_goto {off : Int} (tgt : Nat) (k : Nat) (hk : (xt X)[k]? = some (pc, .goto off, pc')) (ht : (pc : Int) + off = (tgt : Int)) (g : Go l X post tgt L st M) : Go l X post pc L st M := by
  intro D ad z p e s m args below meth c H locs ls A C hl hW
  obtain ⟨d, e1⟩ := C.1.at hk
  exact lv_goto (rest := smap ad st) C.2.1.1 C.2.1.2.1 d ht (g D ad z p e s m args below meth c H locs ls A C hl hW)
theorem go_iaload {i : Int32} {j : Nat} (k : Nat) (hk : (xt X)[k]? = some (pc, .iaload, pc')) (ho : (1, j) ∈ allc) (hin : vp_in i (lenI j)) (g : Go l X post pc' L (vi (M.1 (1, j) i.toNatClampNeg) :: st) M) : Go l X post pc L (vi i :: vr 1 j :: st) M := by
  intro D ad z p e s m args below meth c H locs ls A C hl hW
  obtain ⟨d, e1⟩ := C.1.at hk
  subst e1
  obtain ⟨q, hq, -⟩ := wd_at (ad := ad) (z := z) (M := M) ho
  exact va_iald (rest := smap ad st) C.2.1.1 C.2.1.2.1 C.2.2.2.2.2.1 hW.1 q 0 hq rfl hin d (g D ad z p e s m args below meth c H locs ls A C hl hW)
theorem go_laload {i : Int32} {j : Nat} (k : Nat) (hk : (xt X)[k]? = some (pc, .laload, pc')) (ho : (2, j) ∈ allc) (hin : vp_in i (lenL j)) (g : Go l X post pc' L (vl (M.2 (2, j) i.toNatClampNeg) :: st) M) : Go l X post pc L (vi i :: vr 2 j :: st) M := by
  intro D ad z p e s m args below meth c H locs ls A C hl hW
  obtain ⟨d, e1⟩ := C.1.at hk
  subst e1
  obtain ⟨q, hq, -⟩ := wd_at (ad := ad) (z := z) (M := M) ho
  exact va_lald (rest := smap ad st) C.2.1.1 C.2.1.2.1 C.2.2.2.2.2.1 hW.1 q 1 hq rfl hin d (g D ad z p e s m args below meth c H locs ls A C hl hW)
theorem go_aaload {i : Int32} (k : Nat) (hk : (xt X)[k]? = some (pc, .aaload, pc')) (hin : vp_in i 6) (g : Go l X post pc' L (vr 0 i.toNatClampNeg :: st) M) : Go l X post pc L (vi i :: vr 4 0 :: st) M := by
  intro D ad z p e s m args below meth c H locs ls A C hl hW
  obtain ⟨d, e1⟩ := C.1.at hk
  subst e1
  obtain ⟨q, hq, -⟩ := wd_at (ad := ad) (z := z) (M := M) (c := (4, 0)) (by decide)
  exact va_aldq (rest := smap ad st) C.2.1.1 C.2.1.2.1 C.2.2.2.2.2.1 hW.1 q 2 hq rfl hin d (g D ad z p e s m args below meth c H locs ls A C hl hW)
theorem go_arraylength {j : Nat} (v : Int32) (k : Nat) (hk : (xt X)[k]? = some (pc, .arraylength, pc')) (ho : (1, j) ∈ allc) (hv : Int32.ofNat (lenI j) = v) (g : Go l X post pc' L (vi v :: st) M) : Go l X post pc L (vr 1 j :: st) M := by
  intro D ad z p e s m args below meth c H locs ls A C hl hW
  obtain ⟨d, e1⟩ := C.1.at hk
  subst e1
  obtain ⟨q, hq, -⟩ := wd_at (ad := ad) (z := z) (M := M) ho
  exact va_alen (rest := smap ad st) C.2.1.1 C.2.1.2.1 C.2.2.2.2.2.1 hW.1 q 0 hq (ty := .int) rfl hv d (g D ad z p e s m args below meth c H locs ls A C hl hW)
theorem Hw.set {D : va_G} {ad : AD} {z : Zc} {s : State} {A : Nat → Prop} {M' : Mm} {H1 : Heap} {locs1 : List Loc} {c : Nat × Nat} {q : Nat} (hq : allc[q]? = some c) (h1 : ∀ c', c' ≠ c → M'.1 c' = M.1 c' ∧ M'.2 c' = M.2 c') {e : va_E} (he : e = ent ad z (M'.1 c) (M'.2 c) c) (hP : va_P D classes ((wd ad z M).set q (ad c, e)) H1) (hD : va_D A ((wd ad z M).set q (ad c, e))) (hS : va_S A s.heap H1 locs1) : Hw D ad z s A M' H1 locs1 := by
  rw [wd_set hq h1 he] at hP hD
  exact ⟨hP, hD, hS⟩
theorem go_iastore {i x : Int32} {j : Nat} (k : Nat) (hk : (xt X)[k]? = some (pc, .iastore, pc')) (ho : (1, j) ∈ allc) (hin : vp_in i (lenI j)) (g : Go l X post pc' L st (uI M (1, j) i.toNatClampNeg x)) : Go l X post pc L (vi x :: vi i :: vr 1 j :: st) M := by
  intro D ad z p e s m args below meth c H locs ls A C hl hW
  obtain ⟨d, e1⟩ := C.1.at hk
  subst e1
  obtain ⟨q, hq, hq2⟩ := wd_at (ad := ad) (z := z) (M := M) ho
  exact va_iast (rest := smap ad st) C.2.1.1 C.2.1.2.1 C.2.2.2.2.2.1 hW.1 hW.2.1 hW.2.2 q 0 hq rfl hin d (fun H1 locs1 h1 h2 h3 => g D ad z p e s m args below meth c H1 locs1 ls A C hl (Hw.set hq2 (fun c' hc => ⟨uI_ne M _ _ hc, rfl⟩) (by rw [uI_self]; rfl) h1 h2 h3))
theorem go_lastore {i : Int32} {x : Int64} {j : Nat} (k : Nat) (hk : (xt X)[k]? = some (pc, .lastore, pc')) (ho : (2, j) ∈ allc) (hin : vp_in i (lenL j)) (g : Go l X post pc' L st (uL M (2, j) i.toNatClampNeg x)) : Go l X post pc L (vl x :: vi i :: vr 2 j :: st) M := by
  intro D ad z p e s m args below meth c H locs ls A C hl hW
  obtain ⟨d, e1⟩ := C.1.at hk
  subst e1
  obtain ⟨q, hq, hq2⟩ := wd_at (ad := ad) (z := z) (M := M) ho
  exact va_last (rest := smap ad st) C.2.1.1 C.2.1.2.1 C.2.2.2.2.2.1 hW.1 hW.2.1 hW.2.2 q 1 hq rfl hin d (fun H1 locs1 h1 h2 h3 => g D ad z p e s m args below meth c H1 locs1 ls A C hl (Hw.set (M := M) (M' := uL M (2, j) i.toNatClampNeg x) hq2 (fun c' hc => ⟨rfl, uL_ne M _ _ hc⟩) (by rw [uL_self]; rfl) h1 h2 h3))
/-- a field of the class of kind kd, as the class 'own' links it -/
def FG (own : String) (idx kd slot : Nat) : Prop := ∃ (C : String) (T : u_T) (N : Nat), classes[cix kd]? = some (C, T, N) ∧ slot < N ∧ (∀ w ∈ u_ws C T N, w ∈ WB) ∧ (Cond.fieldLink own idx (T slot).1 (T slot).2.1 (T slot).2.2.1 ∈ WB ∨ ∃ host, Cond.fieldLinkNest own idx (T slot).1 (T slot).2.1 (T slot).2.2.1 host ∈ NW)
/-- .. that may be written, of the type ty -/
def FP (own : String) (idx kd slot : Nat) (ty : FieldType) : Prop := ∃ (C : String) (T : u_T) (N : Nat) (ty0 : Nat → FieldType), classes[cix kd]? = some (C, T, N) ∧ slot < N ∧ (∀ w ∈ u_ws C T N, w ∈ WB) ∧ (Cond.fieldLink own idx (T slot).1 (T slot).2.1 (T slot).2.2.1 ∈ WB ∨ ∃ host, Cond.fieldLinkNest own idx (T slot).1 (T slot).2.1 (T slot).2.2.1 host ∈ NW) ∧ (∀ k, k < N → parseFieldDescriptor (T k).2.2.1 = some (ty0 k)) ∧ (∀ a, a < N → ∀ b, b < N → a ≠ b → (T a).2.1 ≠ (T b).2.1) ∧ (T slot).2.2.2 = false ∧ parseFieldDescriptor (T slot).2.2.1 = some ty
def objk (kd : Nat) : Bool := match kd with
  | 1 => false
  | 2 => false
  | 4 => false
  | _ => true
theorem ent_obj {ad : AD} {z : Zc} {f : Nat → Int32} {g : Nat → Int64} {kd j : Nat} (h : objk kd = true) : ent ad z f g (kd, j) = .inr (cix kd, smap ad (fl f (kd, j))) := by
  match kd, h with
  | 0, _ => rfl
  | 3, _ => rfl
  | n + 5, _ => rfl
theorem go_getfield {idx kd j : Nat} (slot : Nat) (v : PV) (k : Nat) (hk : (xt X)[k]? = some (pc, .getfield idx, pc')) (ho : (kd, j) ∈ allc) (hb : objk kd = true) (hf : FG (xy X).cls idx kd slot) (hv : (fl (M.1 (kd, j)) (kd, j))[slot]? = some v) (g : Go l X post pc' L (v :: st) M) : Go l X post pc L (vr kd j :: st) M := by
  intro D ad z p e s m args below meth c H locs ls A C hl hW
  obtain ⟨d, e1⟩ := C.1.at hk
  subst e1
  obtain ⟨q, hq, -⟩ := wd_at (ad := ad) (z := z) (M := M) ho
  rw [ent_obj hb] at hq
  obtain ⟨Cn, T, N, h1, h2, h3, h4⟩ := hf
  have hv2 : (smap ad (fl (M.1 (kd, j)) (kd, j)))[slot]? = some (tv ad v) := by simp [smap, hv]
  rcases h4 with h4 | ⟨host, h4⟩
  · exact va_get (rest := smap ad st) C.2.1.1 C.2.1.2.1 C.2.1.2.2.2.2 (fun w hw => List.mem_cons_of_mem _ (h3 w hw)) C.2.1.2.2.2.1 C.2.2.2.2.2.1 hW.1 q hq h1 slot h2 (C.2.1.2.2.2.2 _ (List.mem_cons_of_mem _ h4)) (fun _ h9 => h9) hv2 d (g D ad z p e s m args below meth c H locs ls A C hl hW)
  · exact va_getN (rest := smap ad st) C.2.1.1 C.2.1.2.1 C.2.1.2.2.2.2 (fun w hw => List.mem_cons_of_mem _ (h3 w hw)) C.2.1.2.2.2.1 C.2.2.2.2.2.1 hW.1 q hq h1 slot h2 (va_Nw.use rfl (C.2.2.2.2.1 _ h4)) (fun _ h9 => h9) hv2 d (g D ad z p e s m args below meth c H locs ls A C hl hW)
theorem go_putfield {idx kd j : Nat} {x : Int32} (slot : Nat) (ty : FieldType) (k : Nat) (hk : (xt X)[k]? = some (pc, .putfield idx, pc')) (ho : (kd, j) ∈ allc) (hb : objk kd = true) (hf : FP (xy X).cls idx kd slot ty) (hn : narrow ty (.int x) = .int x) (ht : fits ty (.int x) = true) (hlen : slot < (fl (M.1 (kd, j)) (kd, j)).length) (hs : fl (upd (M.1 (kd, j)) slot x) (kd, j) = (fl (M.1 (kd, j)) (kd, j)).set slot (vi x)) (g : Go l X post pc' L st (uI M (kd, j) slot x)) : Go l X post pc L (vi x :: vr kd j :: st) M := by
  intro D ad z p e s m args below meth c H locs ls A C hl hW
  obtain ⟨d, e1⟩ := C.1.at hk
  subst e1
  obtain ⟨q, hq, hq2⟩ := wd_at (ad := ad) (z := z) (M := M) ho
  rw [ent_obj hb] at hq
  obtain ⟨Cn, T, N, ty0, h1, h2, h3, h4, h5, h6, h7, h8⟩ := hf
  have hlen2 : slot < (smap ad (fl (M.1 (kd, j)) (kd, j))).length := by simpa [smap] using hlen
  have key : Sum.inr (cix kd, (smap ad (fl (M.1 (kd, j)) (kd, j))).set slot (.int x)) = ent ad z ((uI M (kd, j) slot x).1 (kd, j)) ((uI M (kd, j) slot x).2 (kd, j)) (kd, j) := by
    rw [uI_self, ent_obj hb, hs]
    simp [smap, List.map_set, tv]
  rcases h4 with h4 | ⟨host, h4⟩
  · exact va_put (rest := smap ad st) C.2.1.1 C.2.1.2.1 C.2.1.2.2.2.2 (fun w hw => List.mem_cons_of_mem _ (h3 w hw)) ty0 h5 h6 C.2.1.2.2.2.1 C.2.2.2.2.2.1 hW.1 hW.2.1 hW.2.2 q hq h1 slot h2 (C.2.1.2.2.2.2 _ (List.mem_cons_of_mem _ h4)) (fun _ h9 => h9) h7 h8 hn ht hlen2 d (fun H1 locs1 g1 g2 g3 => g D ad z p e s m args below meth c H1 locs1 ls A C hl (Hw.set hq2 (fun c' hc => ⟨uI_ne M _ _ hc, rfl⟩) key g1 g2 g3))
  · exact va_putN (rest := smap ad st) C.2.1.1 C.2.1.2.1 C.2.1.2.2.2.2 (fun w hw => List.mem_cons_of_mem _ (h3 w hw)) ty0 h5 h6 C.2.1.2.2.2.1 C.2.2.2.2.2.1 hW.1 hW.2.1 hW.2.2 q hq h1 slot h2 (va_Nw.use rfl (C.2.2.2.2.1 _ h4)) (fun _ h9 => h9) h7 h8 hn ht hlen2 d (fun H1 locs1 g1 g2 g3 => g D ad z p e s m args below meth c H1 locs1 ls A C hl (Hw.set hq2 (fun c' hc => ⟨uI_ne M _ _ hc, rfl⟩) key g1 g2 g3))
/-- a call site: how 'own' links the method -/
def CL (own : String) (idx : Nat) (Y : MX) : Prop := Cond.methodLink own idx (xy Y) ∈ WB ∨ ∃ host, Cond.methodLinkNest own idx (xy Y) host ∈ NW
def CS (own : String) (idx : Nat) (Y : MX) (n : Nat) : Prop := CL own idx Y ∧ Cond.static (xy Y) ∈ WB ∧ (parseMethodDescriptor (xy Y).desc).map (fun d => d.parameters.length) = some n
def CV (own : String) (idx : Nat) (Y : MX) (n kd : Nat) : Prop := CL own idx Y ∧ (Cond.instanceMethod (xy Y) ∈ WB ∧ Cond.selects (xy Y).cls (xy Y) (xy Y) ∈ WB) ∧ (parseMethodDescriptor (xy Y).desc).map (fun d => d.parameters.length) = some n ∧ ∃ (T : u_T) (N : Nat), classes[cix kd]? = some ((xy Y).cls, T, N)
def Rm (X Y : MX) : Prop := (xm Y).frames + 1 ≤ (xm X).frames ∧ 8 + (xn Y + 11) + (xm Y).locals ≤ (xm X).locals
theorem preW_blind {D : va_G} {ad : AD} {z : Zc} {M : Mm} {sz : Nat} {av : List Value} : FrameBlind (va_Pc av (PreW D ad z M sz)) := by
  intro a U g mk q
  obtain ⟨q0, q1, q2, q3, q4, q5⟩ := q
  exact ⟨q0, q1, nw_same (s := U) (U := U.calling g mk a) rfl q2, q3, va_K.moved (u := U) (U := U.calling g mk a) (Vm.Alike.refl U.vm) q4, q5⟩
theorem preW_at {D : va_G} {ad : AD} {z : Zc} {p : Program} {s : State} {m : MethodId} {args : Array Value} {meth : Method} {c : Code} {A : Nat → Prop} {H : Heap} {locs : List Loc} (C : Cx X D ad z p s m args meth c A) (hW : Hw D ad z s A M H locs) {U : State} (hU : U.heap = H) (hWa : s.WarmedH U.vm) : PreW D ad z M H.size U :=
  ⟨by rw [hU], nw_warm hWa C.2.2.2.2.1, by rw [hU]; exact hW.1, va_K.moved hWa.alike C.2.2.2.2.2.1, hW.2.1.weaken (fun _ _ _ _ => trivial)⟩
theorem wd_A {D : va_G} {ad : AD} {z : Zc} {s : State} {A : Nat → Prop} {H : Heap} {locs : List Loc} (hA : ∀ q, s.heap.size ≤ q → A q) (hW : Hw D ad z s A M H locs) : ∀ q, va_A (wd ad z M) H.size q → A q := by
  intro q h
  rcases h with ⟨k, e, h⟩ | h
  · exact hW.2.1.2 k _ h
  · exact hA q (Nat.le_trans hW.2.2.1 h)
/-- behind a call -/
theorem go_ret {D : va_G} {ad : AD} {z : Zc} {p : Program} {e : Env} {s : State} {m : MethodId} {args : Array Value} {below : List Frame} {meth : Method} {c : Code} {H : Heap} {locs : List Loc} {ls : Array Slot} {A : Nat → Prop} {postY : Option PV → Mm → Prop} {stk : List Value} {a : Array Value} (C : Cx X D ad z p s m args meth c A) (hl : lv_has ls (xn X) (lmap ad L)) (hW : Hw D ad z s A M H locs)
    (hr : va_Run p l e (xm X) s m args below meth c H locs 0 0 0 0 (F0 m pc ls stk) (smap ad st) (gQ D ad z postY (va_A (wd ad z M) H.size) a) (va_A (wd ad z M) H.size))
    (g : ∀ r M', postY r M' → Go l X post (pc + 3) L (r.toList ++ st) M') : W p l e (xm X) s m args below meth c H locs 0 0 (MQ below (gQ D ad z post A) args s 0 0 A) (F0 m pc ls stk) := by
  have hF := wd_A C.2.2.2.2.2.2 hW
  intro T hT S
  obtain ⟨v, st0, t, T', Lc, h0, S', hL, e1, e2, ⟨⟨r, M', hv, hp, hP1, hK1, hD1⟩, hz, hk⟩, sp⟩ := hr T hT S
  have hv2 : v = r.map (tv ad) := by injection hv
  subst hv2
  rw [h0] at hz hk
  have hS := hW.2.2
  obtain ⟨t2, a1, b1⟩ := g r M' hp D ad z p e s m args below meth c T'.heap (locs ++ Lc) ls A C hl
    ⟨by rw [e1]; exact hP1, hD1.weaken (fun _ _ _ h => hF _ h), ⟨Nat.le_trans hS.1 (by rw [e1]; exact hz), fun q h1 h2 => by rw [e1, hk q (Nat.lt_of_lt_of_le h1 hS.1) (fun y => h2 (hF q y))]; exact hS.2.1 q h1 h2, fun q hq => by
      rcases List.mem_append.mp hq with h | h
      · exact hS.2.2 q h
      · exact hF _ (hL q h)⟩⟩ T' rfl S'
  have e3 : smap ad (r.toList ++ st) = (r.map (tv ad)).toList ++ smap ad st := by cases r <;> simp [smap]
  rw [e3] at a1
  exact ⟨t2, sp t2 a1, b1⟩
theorem pcat_sum {ad : AD} {w : Nat} (h : (st.map pcat).sum ≤ w) : ((smap ad st).map fun v => v.category).sum ≤ w := by
  have e : (smap ad st).map (fun v => v.category) = st.map pcat := by simp [smap, tv_cat]
  rw [e]
  exact h
theorem go_callS {Y : MX} {postY : Option PV → Mm → Prop} {idx n : Nat} (av : List PV) (k : Nat) (hk : (xt X)[k]? = some (pc, .invokestatic idx, pc')) (E : Ev l Y av M postY) (hY : Mk Y) (cs : CS (xy X).cls idx Y n) (hn : av.length = n) (hR : Rm X Y) (hst : (st.map pcat).sum ≤ 8) {stk : List PV} (hs : stk = av.reverse ++ st) (g : ∀ r M', postY r M' → Go l X post pc' L (r.toList ++ st) M') : Go l X post pc L stk M := by
  intro D ad z p e s m args below meth c H locs ls A C hl hW
  obtain ⟨d, e1⟩ := C.1.at hk
  subst e1
  obtain ⟨c1, c2, c3⟩ := cs
  have hts := C.2.1.2.2.2.2
  have hst2 : (F0 m pc ls (smap ad stk)).stack = (smap ad av).reverse ++ smap ad st := by subst hs; simp [smap]
  have ht : ∀ w, w ∈ WB → w.before args s = true := fun w hw => hts w (List.mem_cons_of_mem _ hw)
  have hd := hY.2.2.2.1
  refine go_ret (postY := postY) (a := (smap ad av).toArray) C hl hW ?_ g
  rcases c1 with c1 | ⟨host, c1⟩
  · exact va_runS (n := n) (index := idx) C.2.1 (E D ad z H.size) ⟨callB_of n hts (gi_of hY) rfl hY.2.2.2.2.1 hY.2.2.2.2.2.1 (ht _ hY.2.2.2.2.2.2) (ht _ c1) ⟨hd.1, hd.2, c3⟩ hR, ht _ c2⟩ ⟨preW_blind, fun U hU hWa => ⟨rfl, preW_at C hW hU hWa⟩⟩ rfl (by simpa [smap] using hn) hl.1 hst2 (lv_room (pcat_sum hst)) d ⟨Nat.zero_le _, Nat.zero_le _⟩
  · exact va_runSN (n := n) (index := idx) (host := host) C.2.1 (E D ad z H.size) ⟨va_cnB n hts (gi_of hY) rfl hY.2.2.2.2.1 hY.2.2.2.2.2.1 (C.2.2.2.2.1 _ c1) (ht _ hY.2.2.2.2.2.2) ⟨hd.1, hd.2, c3⟩ hR, ht _ c2, trivial⟩ ⟨preW_blind, fun U hU hWa => ⟨rfl, preW_at C hW hU hWa⟩⟩ rfl (by simpa [smap] using hn) hl.1 hst2 (lv_room (pcat_sum hst)) d ⟨Nat.zero_le _, Nat.zero_le _⟩
theorem go_callV {Y : MX} {postY : Option PV → Mm → Prop} {idx n kd j : Nat} (av : List PV) (k : Nat) (hk : (xt X)[k]? = some (pc, .invokevirtual idx, pc')) (E : Ev l Y (vr kd j :: av) M postY) (hY : Mk Y) (ho : (kd, j) ∈ allc) (hb : objk kd = true) (cs : CV (xy X).cls idx Y n kd) (hn : av.length = n) (hR : Rm X Y) (hst : (st.map pcat).sum ≤ 8) {stk : List PV} (hs : stk = av.reverse ++ vr kd j :: st) (g : ∀ r M', postY r M' → Go l X post pc' L (r.toList ++ st) M') : Go l X post pc L stk M := by
  intro D ad z p e s m args below meth c H locs ls A C hl hW
  obtain ⟨d, e1⟩ := C.1.at hk
  subst e1
  obtain ⟨c1, ⟨c2, c2b⟩, c3, T, N, c4⟩ := cs
  have hts := C.2.1.2.2.2.2
  have hst2 : (F0 m pc ls (smap ad stk)).stack = (smap ad av).reverse ++ .ref (ad (kd, j)) :: smap ad st := by subst hs; simp [smap, tv]
  have ht : ∀ w, w ∈ WB → w.before args s = true := fun w hw => hts w (List.mem_cons_of_mem _ hw)
  have hd := hY.2.2.2.1
  obtain ⟨q, hq, -⟩ := wd_at (ad := ad) (z := z) (M := M) ho
  rw [ent_obj hb] at hq
  have hrc := va_recv C.2.2.2.2.2.1 hW.1 c4 hq
  refine go_ret (postY := postY) (a := (Value.ref (ad (kd, j)) :: smap ad av).toArray) C hl hW ?_ g
  rcases c1 with c1 | ⟨host, c1⟩
  · exact va_runV (n := n) (index := idx) (C := (xy Y).cls) (b := ad (kd, j)) C.2.1 (E D ad z H.size) ⟨callB_of n hts (gi_of hY) rfl hY.2.2.2.2.1 hY.2.2.2.2.2.1 (ht _ hY.2.2.2.2.2.2) (ht _ c1) ⟨hd.1, hd.2, c3⟩ hR, ht _ c2, ht _ c2b⟩ ⟨preW_blind, hrc, fun U hU hWa => ⟨rfl, preW_at C hW hU hWa⟩⟩ rfl (by simpa [smap] using hn) hl.1 hst2 (lv_room (pcat_sum hst)) d ⟨Nat.zero_le _, Nat.zero_le _⟩
  · exact va_runVN (n := n) (index := idx) (C := (xy Y).cls) (host := host) (b := ad (kd, j)) C.2.1 (E D ad z H.size) ⟨va_cnB n hts (gi_of hY) rfl hY.2.2.2.2.1 hY.2.2.2.2.2.1 (C.2.2.2.2.1 _ c1) (ht _ hY.2.2.2.2.2.2) ⟨hd.1, hd.2, c3⟩ hR, ht _ c2, ht _ c2b⟩ ⟨preW_blind, hrc, fun U hU hWa => ⟨rfl, preW_at C hW hU hWa⟩⟩ rfl (by simpa [smap] using hn) hl.1 hst2 (lv_room (pcat_sum hst)) d ⟨Nat.zero_le _, Nat.zero_le _⟩
def uC (M : Mm) (i j : Nat) : Mm := (fun c => if c = (1, j) then va_cpy (M.1 (1, i)) (M.1 (1, j)) 0 0 32 else M.1 c, M.2)
def ACo (own : String) (idx : Nat) : Prop := Cond.methodLink own idx arraycopyName ∈ WB ∧ Cond.native arraycopyName ∈ WB ∧ Cond.static arraycopyName ∈ WB ∧ Cond.initialized "java/lang/System" ∈ WB
theorem go_arraycopy {idx i j : Nat} (k : Nat) (hk : (xt X)[k]? = some (pc, .invokestatic idx, pc')) (hf : ACo (xy X).cls idx) (hi : i < 7) (hj : j < 7) (hfr : 1 ≤ (xm X).frames) (hlo : 0 + (nativeFrameWords "java/lang/System" "arraycopy" 5 + 11) ≤ (xm X).locals) (g : Go l X post pc' L [] (uC M i j)) : Go l X post pc L [vi 32, vi 0, vr 1 j, vi 0, vr 1 i] M := by
  intro D ad z p e s m args below meth c H locs ls A C hl hW
  obtain ⟨d, e1⟩ := C.1.at hk
  subst e1
  obtain ⟨q0, hq0, -⟩ := wd_at (ad := ad) (z := z) (M := M) (c := (1, i)) (ok1 (by omega))
  obtain ⟨q1, hq1, hq2⟩ := wd_at (ad := ad) (z := z) (M := M) (c := (1, j)) (ok1 (by omega))
  have hli : lenI i = 32 := if_pos hi
  have hlj : lenI j = 32 := if_pos hj
  have ht : ∀ w, w ∈ WB → w.before args s = true := fun w hw => C.2.1.2.2.2.2 w (List.mem_cons_of_mem _ hw)
  have e32 : (32 : Int32).toNatClampNeg = 32 := by decide
  have e0 : (0 : Int32).toNatClampNeg = 0 := by decide
  refine va_copyi (rest := []) (sp := 0) (dp := 0) (n := 32) (ty := .int) C.2.1.1 C.2.1.2.1 (C.2.1.2.2.1.trans hl.1.symm) C.2.1.2.2.2.1 (ht _ hf.1) (ht _ hf.2.1) (ht _ hf.2.2.1) (ht _ hf.2.2.2) C.2.2.2.2.2.1 hW.1 hW.2.1 hW.2.2 q0 q1 0 0 hq0 hq1 rfl rfl rfl (by decide) (by decide) (by decide) (by rw [e32, e0, hli]; omega) (by rw [e32, e0, hlj]; omega) (fun _ _ => rfl) hfr hlo d (fun H1 locs1 g1 g2 g3 => g D ad z p e s m args below meth c H1 locs1 ls A C hl (Hw.set hq2 (fun c' hc => ⟨if_neg hc, rfl⟩) ?_ g1 g2 g3))
  show _ = ent ad z (if (1, j) = (1, j) then va_cpy (M.1 (1, i)) (M.1 (1, j)) 0 0 32 else M.1 (1, j)) (M.2 (1, j)) (1, j)
  rw [if_pos rfl]
  rfl
theorem ret_q {D : va_G} {ad : AD} {z : Zc} {p : Program} {s : State} {m : MethodId} {args : Array Value} {meth : Method} {c : Code} {H : Heap} {locs : List Loc} {A : Nat → Prop} (C : Cx X D ad z p s m args meth c A) (hW : Hw D ad z s A M H locs) (r : Option PV) (hp : post r M) {t : State} (ht : t.heap = H) (hWa : s.WarmedH t.vm) (a : Array Value) : gQ D ad z post A a s (.returned (r.map (tv ad))) t :=
  ⟨⟨r, M, rfl, hp, by rw [ht]; exact hW.1, va_K.moved hWa.alike C.2.2.2.2.2.1, hW.2.1⟩, hW.2.2.F ht⟩
theorem go_ireturn {x : Int32} {ty : FieldType} (k : Nat) (hk : (xt X)[k]? = some (pc, .ireturn, pc')) (hr : xr X = some ty) (hn : narrow ty (.int x) = .int x) (hp : post (some (vi x)) M) : Go l X post pc L [vi x] M := by
  intro D ad z p e s m args below meth c H locs ls A C hl hW
  obtain ⟨d, e1⟩ := C.1.at hk
  exact W.zret (v := x) (ty := ty) C.2.1.1 C.2.1.2.1 (C.2.2.1.trans hr) hn (fun t ht hWa => ret_q C hW (some (vi x)) hp ht hWa _) hW.2.2.2.2 d C.2.2.2.1
theorem go_lreturn {x : Int64} (k : Nat) (hk : (xt X)[k]? = some (pc, .lreturn, pc')) (hr : xr X = some .long) (hp : post (some (vl x)) M) : Go l X post pc L [vl x] M := by
  intro D ad z p e s m args below meth c H locs ls A C hl hW
  obtain ⟨d, e1⟩ := C.1.at hk
  exact W.lret (v := x) C.2.1.1 C.2.1.2.1 (C.2.2.1.trans hr) (fun t ht hWa => ret_q C hW (some (vl x)) hp ht hWa _) hW.2.2.2.2 d C.2.2.2.1
theorem go_areturn {a b : Nat} {rt : FieldType} (k : Nat) (hk : (xt X)[k]? = some (pc, .areturn, pc')) (hr : xr X = some rt) (hrt : (∃ n, rt = .object n) ∨ ∃ t, rt = .array t) (hp : post (some (vr a b)) M) : Go l X post pc L [vr a b] M := by
  intro D ad z p e s m args below meth c H locs ls A C hl hW
  obtain ⟨d, e1⟩ := C.1.at hk
  exact W.aret (v := .ref (ad (a, b))) C.2.1.1 C.2.1.2.1 (C.2.2.1.trans hr) hrt (Or.inr ⟨_, rfl⟩) (fun t ht hWa => ret_q C hW (some (vr a b)) hp ht hWa _) hW.2.2.2.2 d C.2.2.2.1
theorem go_return (k : Nat) (hk : (xt X)[k]? = some (pc, .return_, pc')) (hr : xr X = none) (hp : post none M) : Go l X post pc L [] M := by
  intro D ad z p e s m args below meth c H locs ls A C hl hW
  obtain ⟨d, e1⟩ := C.1.at hk
  exact W.vret C.2.1.1 C.2.1.2.1 (C.2.2.1.trans hr) (fun t ht hWa => ret_q C hW none hp ht hWa _) hW.2.2.2.2 d C.2.2.2.1
end EN
/-! what the mirrors are made of -/
def bd {α β : Type} (o : Option α) (f : α → Option β) : Option β := match o with
  | none => none
  | some a => f a
theorem bd_inv {α β : Type} {o : Option α} {f : α → Option β} {r : β} (h : bd o f = some r) : ∃ a, o = some a ∧ f a = some r := by
  cases o with
  | none => cases h
  | some a => exact ⟨a, rfl, h⟩
theorem bd_some {α β : Type} (a : α) (f : α → Option β) : bd (some a) f = f a := rfl
theorem bd_of {α β : Type} {o : Option α} {f : α → Option β} {a : α} (h : o = some a) : bd o f = f a := by subst h; rfl
def ck {β : Type} (b : Bool) (x : Option β) : Option β := if b = true then x else none
theorem ck_inv {β : Type} {b : Bool} {x : Option β} {r : β} (h : ck b x = some r) : b = true ∧ x = some r := by
  cases b with
  | false => cases h
  | true => exact ⟨rfl, h⟩
theorem ck_of {β : Type} {b : Bool} {x : Option β} (h : b = true) : ck b x = x := by subst h; rfl
def smr {α β γ : Type} (q : α ⊕ β) (g : β → Option γ) (f : α → Option γ) : Option γ := match q with
  | .inl a => f a
  | .inr b => g b
theorem smr_l {α β γ : Type} {a : α} {g : β → Option γ} {f : α → Option γ} {r : Option γ} (h : smr (.inl a) g f = r) : f a = r := h
theorem smr_r {α β γ : Type} {b : β} {g : β → Option γ} {f : α → Option γ} {r : Option γ} (h : smr (.inr b) g f = r) : g b = r := h
def lpq {σ ρ : Type} (f : σ → Option ρ) (q : σ ⊕ ρ) : Option ρ := match q with
  | .inl s => f s
  | .inr r => some r
theorem lpq_r {σ ρ : Type} {f : σ → Option ρ} {r r2 : ρ} (h : lpq f (.inr r) = some r2) : r = r2 := Option.some.inj h
def lpN {σ ρ : Type} (b : σ → Option (σ ⊕ ρ)) : Nat → σ → Option ρ
  | 0, _ => none
  | n + 1, s => bd (b s) (lpq (lpN b n))
theorem lpN_0 {σ ρ : Type} {b : σ → Option (σ ⊕ ρ)} {s : σ} {r : ρ} (h : lpN b 0 s = some r) : False := by
  simp [lpN] at h
theorem lpN_inv {σ ρ : Type} {b : σ → Option (σ ⊕ ρ)} {n : Nat} {s : σ} {r : ρ} (h : lpN b (n + 1) s = some r) : ∃ q, b s = some q ∧ lpq (lpN b n) q = some r := bd_inv h
def lp {σ ρ : Type} (b : σ → Option (σ ⊕ ρ)) (s : σ) : Option ρ := lpN b 1000000 s
theorem ite_t {α : Type} {p : Prop} {i : Decidable p} {a b r : α} (c : p) (h : @ite α p i a b = r) : a = r := by rw [if_pos c] at h; exact h
theorem ite_f {α : Type} {p : Prop} {i : Decidable p} {a b r : α} (c : ¬ p) (h : @ite α p i a b = r) : b = r := by rw [if_neg c] at h; exact h
def inb (i : Int32) (n : Nat) : Bool := !(decide (i < 0) || decide (n ≤ i.toNatClampNeg))
theorem inb_vp {i : Int32} {n : Nat} (h : inb i n = true) : vp_in i n := by
  simp only [inb, Bool.not_eq_true', Bool.or_eq_false_iff, decide_eq_false_iff_not] at h
  intro q
  rcases q with q | q
  · exact h.1 q
  · exact h.2 q
theorem vp_inb {i : Int32} {n : Nat} (h : vp_in i n) : inb i n = true := by
  simp only [inb, Bool.not_eq_true', Bool.or_eq_false_iff, decide_eq_false_iff_not]
  exact ⟨fun q => h (Or.inl q), fun q => h (Or.inr q)⟩
def bI (b : Bool) : Int32 := match b with
  | true => 1
  | false => 0
theorem nbI (b : Bool) : narrow .boolean (.int (bI b)) = .int (bI b) := by cases b <;> rfl
def isb (x : Int32) : Bool := decide (x = 0) || decide (x = 1)
def tb (x : Int32) : Bool := !decide (x = 0)
theorem isb_e {x : Int32} (h : isb x = true) : bI (tb x) = x := by
  simp only [isb, Bool.or_eq_true, decide_eq_true_eq] at h
  rcases h with rfl | rfl <;> rfl
theorem isb_n {x : Int32} (h : isb x = true) : narrow .boolean (.int x) = .int x := by
  simp only [isb, Bool.or_eq_true, decide_eq_true_eq] at h
  rcases h with rfl | rfl <;> rfl
theorem pz {post : Option PV → Mm → Prop} {x y : Int32} {M : Mm} (e : x = y) (h : post (some (vi x)) M) : post (some (vi y)) M := e ▸ h
end
section
def X_P_ends : MX := (⟨"OmegaDesk$Passage", "ends", "(II)I"⟩, prog_4_method_2_code, 2, some .int, { frames := 0, cells := 0, slots := 0, locals := 0 },
  [(0, .iload_n 0, 1), (1, .bipush 8, 3), (3, .iload_n 1, 4), (4, .imul, 5), (5, .iushr, 6), (6, .bipush 15, 8), (8, .iand, 9), (9, .ireturn, 10)])
set_option maxRecDepth 20000 in
theorem mk_P_ends : Mk X_P_ends := ⟨by unfold TBk; decide +kernel, by decide +kernel, wb_329, ⟨by decide, by decide⟩, rfl, rfl, wb_14⟩
def m_P_ends (a0 : Int32) (a1 : Int32) : Option (Int32) :=
  some (((a0.toUInt32 >>> (((8 : Int32) * a1).toUInt32 &&& Int32.toUInt32 31)).toInt32) &&& (15 : Int32))
set_option maxRecDepth 20000 in
theorem e_P_ends {l : Launch} {a0 : Int32} {a1 : Int32} {M : Mm} {r : Int32}  (h : m_P_ends a0 a1 = some r) : Ev l X_P_ends [vi a0, vi a1] M (fun v M2 => v = (some (vi r)) ∧ M2 = M) := by
  refine Ev.of mk_P_ends [(0, vi a0), (1, vi a1)] (fun _ => rfl) (fun _ => (Nat.le_of_ble_eq_true rfl)) ?_
  unfold m_P_ends at h
  refine go_iload_n 0 rfl 0 rfl rfl ?_
  refine go_bipush 8 1 rfl (by decide) ?_
  refine go_iload_n 2 rfl 1 rfl rfl ?_
  refine go_imul 3 rfl ?_
  refine go_iushr 4 rfl ?_
  refine go_bipush 15 5 rfl (by decide) ?_
  refine go_iand 6 rfl ?_
  cases h
  exact go_ireturn 7 rfl rfl rfl ⟨rfl, rfl⟩
def X_P_goodEnds : MX := (⟨"OmegaDesk$Passage", "goodEnds", "(II)I"⟩, prog_4_method_3_code, 2, some .int, { frames := 0, cells := 0, slots := 0, locals := 0 },
  [(0, .iload_n 0, 1), (1, .bipush 8, 3), (3, .iload_n 1, 4), (4, .imul, 5), (5, .iconst 4, 6), (6, .iadd, 7), (7, .iushr, 8), (8, .bipush 15, 10), (10, .iand, 11), (11, .ireturn, 12)])
set_option maxRecDepth 20000 in
theorem mk_P_goodEnds : Mk X_P_goodEnds := ⟨by unfold TBk; decide +kernel, by decide +kernel, wb_332, ⟨by decide, by decide⟩, rfl, rfl, wb_14⟩
def m_P_goodEnds (a0 : Int32) (a1 : Int32) : Option (Int32) :=
  some (((a0.toUInt32 >>> ((((8 : Int32) * a1) + (4 : Int32)).toUInt32 &&& Int32.toUInt32 31)).toInt32) &&& (15 : Int32))
set_option maxRecDepth 20000 in
theorem e_P_goodEnds {l : Launch} {a0 : Int32} {a1 : Int32} {M : Mm} {r : Int32}  (h : m_P_goodEnds a0 a1 = some r) : Ev l X_P_goodEnds [vi a0, vi a1] M (fun v M2 => v = (some (vi r)) ∧ M2 = M) := by
  refine Ev.of mk_P_goodEnds [(0, vi a0), (1, vi a1)] (fun _ => rfl) (fun _ => (Nat.le_of_ble_eq_true rfl)) ?_
  unfold m_P_goodEnds at h
  refine go_iload_n 0 rfl 0 rfl rfl ?_
  refine go_bipush 8 1 rfl (by decide) ?_
  refine go_iload_n 2 rfl 1 rfl rfl ?_
  refine go_imul 3 rfl ?_
  refine go_iconst 4 4 rfl (by decide) ?_
  refine go_iadd 5 rfl ?_
  refine go_iushr 6 rfl ?_
  refine go_bipush 15 7 rfl (by decide) ?_
  refine go_iand 8 rfl ?_
  cases h
  exact go_ireturn 9 rfl rfl rfl ⟨rfl, rfl⟩
def X_P_fromStart : MX := (⟨"OmegaDesk$Passage", "fromStart", "(I)I"⟩, prog_4_method_4_code, 1, some .int, { frames := 1, cells := 0, slots := 0, locals := 21 },
  [(0, .iload_n 0, 1), (1, .iconst 0, 2), (2, .invokestatic 11, 5), (5, .ireturn, 6)])
set_option maxRecDepth 20000 in
theorem mk_P_fromStart : Mk X_P_fromStart := ⟨by unfold TBk; decide +kernel, by decide +kernel, wb_339, ⟨by decide, by decide⟩, rfl, rfl, wb_14⟩
theorem cs_P_11 : CS "OmegaDesk$Passage" 11 X_P_ends 2 := ⟨Or.inl wb_336, wb_328, by decide +kernel⟩
def m_P_fromStart (a0 : Int32) : Option (Int32) :=
  bd (m_P_ends a0 (0 : Int32)) fun r1 =>
  some r1
set_option maxRecDepth 20000 in
theorem e_P_fromStart {l : Launch} {a0 : Int32} {M : Mm} {r : Int32}  (h : m_P_fromStart a0 = some r) : Ev l X_P_fromStart [vi a0] M (fun v M2 => v = (some (vi r)) ∧ M2 = M) := by
  refine Ev.of mk_P_fromStart [(0, vi a0)] (fun _ => rfl) (fun _ => (Nat.le_of_ble_eq_true rfl)) ?_
  unfold m_P_fromStart at h
  refine go_iload_n 0 rfl 0 rfl rfl ?_
  refine go_iconst 0 1 rfl (by decide) ?_
  obtain ⟨r1, c, h⟩ := bd_inv h
  refine go_callS _ 2 rfl (e_P_ends c) mk_P_ends cs_P_11 rfl ⟨(Nat.le_of_ble_eq_true rfl), (Nat.le_of_ble_eq_true rfl)⟩ (Nat.le_of_ble_eq_true rfl) rfl ?_
  rintro _ _ ⟨rfl, rfl⟩
  cases h
  exact go_ireturn 3 rfl rfl rfl ⟨rfl, rfl⟩
def X_P_chained : MX := (⟨"OmegaDesk$Passage", "chained", "(I)I"⟩, prog_4_method_5_code, 4, some .int, { frames := 1, cells := 0, slots := 0, locals := 21 },
  [(0, .iload_n 0, 1), (1, .istore_n 1, 2), (2, .iconst 0, 3), (3, .istore_n 2, 4), (4, .iload_n 2, 5), (5, .iconst 4, 6), (6, .if_icmp .ge 47, 9), (9, .iconst 0, 10), (10, .istore_n 3, 11), (11, .iload_n 3, 12), (12, .iconst 4, 13), (13, .if_icmp .ge 34, 16), (16, .iload_n 1, 17), (17, .iload_n 3, 18), (18, .invokestatic 11, 21), (21, .iload_n 2, 22), (22, .ishr, 23), (23, .iconst 1, 24), (24, .iand, 25), (25, .ifCond .eq 16, 28), (28, .iload_n 1, 29), (29, .iload_n 1, 30), (30, .iload_n 2, 31), (31, .invokestatic 11, 34), (34, .bipush 8, 36), (36, .iload_n 3, 37), (37, .imul, 38), (38, .ishl, 39), (39, .ior, 40), (40, .istore_n 1, 41), (41, .iinc 3 1, 44), (44, .goto (-33), 47), (47, .iinc 2 1, 50), (50, .goto (-46), 53), (53, .iload_n 1, 54), (54, .ireturn, 55)])
set_option maxRecDepth 20000 in
theorem mk_P_chained : Mk X_P_chained := ⟨by unfold TBk; decide +kernel, by decide +kernel, wb_335, ⟨by decide, by decide⟩, rfl, rfl, wb_14⟩
def b_P_chained_11 (c2 : Int32) (s : Int32 × Int32) : Option ((Int32 × Int32) ⊕ (Int32 × Int32)) :=
  if (4 : Int32) ≤ s.2 then
    some (Sum.inr (s.1, s.2))
  else
    bd (m_P_ends s.1 s.2) fun r1 =>
    if ((r1 >>> (c2 &&& 31)) &&& (1 : Int32)) = 0 then
      some (Sum.inl (s.1, (s.2 + 1)))
    else
      bd (m_P_ends s.1 c2) fun r2 =>
      bd (some (s.1 ||| (r2 <<< (((8 : Int32) * s.2) &&& 31)))) fun x3 =>
      some (Sum.inl (x3, (s.2 + 1)))
def b_P_chained_4 (s : Int32 × Int32) : Option ((Int32 × Int32) ⊕ (Int32 × Int32)) :=
  if (4 : Int32) ≤ s.2 then
    some (Sum.inr (s.1, s.2))
  else
    bd (lp (b_P_chained_11 s.2) (s.1, (0 : Int32))) fun r4 =>
    some (Sum.inl (r4.1, (s.2 + 1)))
def m_P_chained (a0 : Int32) : Option (Int32) :=
  bd (lp (b_P_chained_4) (a0, (0 : Int32))) fun r5 =>
  some r5.1
set_option maxRecDepth 20000 in
theorem w_P_chained_11 {l : Launch} {post : Option PV → Mm → Prop} (c0 : Int32) (c2 : Int32) (M : Mm)  {r : Int32 × Int32} (kk : Go l X_P_chained post 47 [(0, vi c0), (1, vi r.1), (2, vi c2), (3, vi r.2)] [] M) : ∀ (n : Nat) (s : Int32 × Int32), lpN (b_P_chained_11 c2) n s = some r → Go l X_P_chained post 11 [(0, vi c0), (1, vi s.1), (2, vi c2), (3, vi s.2)] [] M := by
  intro n
  induction n with
  | zero => intro s hc; exact (lpN_0 hc).elim
  | succ n ih =>
    intro s hc
    obtain ⟨q, h, hc⟩ := lpN_inv hc
    unfold b_P_chained_11 at h
    refine go_iload_n 9 rfl 3 rfl rfl ?_
    refine go_iconst 4 10 rfl (by decide) ?_
    refine go_icmp_ge 47 11 rfl (by decide) (fun c => ?_) (fun c => ?_)
    · replace h := ite_t c h
      cases h
      obtain rfl := lpq_r hc
      exact kk
    · replace h := ite_f c h
      refine go_iload_n 12 rfl 1 rfl rfl ?_
      refine go_iload_n 13 rfl 3 rfl rfl ?_
      obtain ⟨r1, c, h⟩ := bd_inv h
      refine go_callS _ 14 rfl (e_P_ends c) mk_P_ends cs_P_11 rfl ⟨(Nat.le_of_ble_eq_true rfl), (Nat.le_of_ble_eq_true rfl)⟩ (Nat.le_of_ble_eq_true rfl) rfl ?_
      rintro _ _ ⟨rfl, rfl⟩
      refine go_iload_n 15 rfl 2 rfl rfl ?_
      refine go_ishr 16 rfl ?_
      refine go_iconst 1 17 rfl (by decide) ?_
      refine go_iand 18 rfl ?_
      refine go_if_eq 41 19 rfl (by decide) (fun c => ?_) (fun c => ?_)
      · replace h := ite_t c h
        refine go_iinc 1 30 rfl 3 rfl (by decide) (Nat.le_of_ble_eq_true rfl) [(0, _), (1, _), (2, _), (3, _)] rfl ?_
        refine go_goto 11 31 rfl (by decide) ?_
        cases h
        exact ih _ hc
      · replace h := ite_f c h
        refine go_iload_n 20 rfl 1 rfl rfl ?_
        refine go_iload_n 21 rfl 1 rfl rfl ?_
        refine go_iload_n 22 rfl 2 rfl rfl ?_
        obtain ⟨r2, c, h⟩ := bd_inv h
        refine go_callS _ 23 rfl (e_P_ends c) mk_P_ends cs_P_11 rfl ⟨(Nat.le_of_ble_eq_true rfl), (Nat.le_of_ble_eq_true rfl)⟩ (Nat.le_of_ble_eq_true rfl) rfl ?_
        rintro _ _ ⟨rfl, rfl⟩
        refine go_bipush 8 24 rfl (by decide) ?_
        refine go_iload_n 25 rfl 3 rfl rfl ?_
        refine go_imul 26 rfl ?_
        refine go_ishl 27 rfl ?_
        refine go_ior 28 rfl ?_
        obtain ⟨_, c, h⟩ := bd_inv h
        cases c
        refine go_istore_n 29 rfl rfl (Nat.le_of_ble_eq_true rfl) [(0, _), (1, _), (2, _), (3, _)] rfl ?_
        refine go_iinc 1 30 rfl 3 rfl (by decide) (Nat.le_of_ble_eq_true rfl) [(0, _), (1, _), (2, _), (3, _)] rfl ?_
        refine go_goto 11 31 rfl (by decide) ?_
        cases h
        exact ih _ hc
set_option maxRecDepth 20000 in
theorem w_P_chained_4 {l : Launch} {post : Option PV → Mm → Prop} (c0 : Int32) (M : Mm)  {r : Int32 × Int32} (kk : Go l X_P_chained post 53 [(0, vi c0), (1, vi r.1), (2, vi r.2)] [] M) : ∀ (n : Nat) (s : Int32 × Int32), lpN (b_P_chained_4) n s = some r → Go l X_P_chained post 4 [(0, vi c0), (1, vi s.1), (2, vi s.2)] [] M := by
  intro n
  induction n with
  | zero => intro s hc; exact (lpN_0 hc).elim
  | succ n ih =>
    intro s hc
    obtain ⟨q, h, hc⟩ := lpN_inv hc
    unfold b_P_chained_4 at h
    refine go_iload_n 4 rfl 2 rfl rfl ?_
    refine go_iconst 4 5 rfl (by decide) ?_
    refine go_icmp_ge 53 6 rfl (by decide) (fun c => ?_) (fun c => ?_)
    · replace h := ite_t c h
      cases h
      obtain rfl := lpq_r hc
      exact kk
    · replace h := ite_f c h
      refine go_iconst 0 7 rfl (by decide) ?_
      refine go_istore_n 8 rfl rfl (Nat.le_of_ble_eq_true rfl) [(0, _), (1, _), (2, _), (3, _)] rfl ?_
      obtain ⟨r4, c, h⟩ := bd_inv h
      refine w_P_chained_11 _ _ _ ?_ _ _ c
      refine go_iinc 1 32 rfl 2 rfl (by decide) (Nat.le_of_ble_eq_true rfl) [(0, _), (1, _), (2, _), (3, _)] rfl ?_
      refine go_goto 4 33 rfl (by decide) ?_
      cases h
      refine go_sub [0, 1, 2] rfl ?_
      exact ih _ hc
set_option maxRecDepth 20000 in
theorem e_P_chained {l : Launch} {a0 : Int32} {M : Mm} {r : Int32}  (h : m_P_chained a0 = some r) : Ev l X_P_chained [vi a0] M (fun v M2 => v = (some (vi r)) ∧ M2 = M) := by
  refine Ev.of mk_P_chained [(0, vi a0)] (fun _ => rfl) (fun _ => (Nat.le_of_ble_eq_true rfl)) ?_
  unfold m_P_chained at h
  refine go_iload_n 0 rfl 0 rfl rfl ?_
  refine go_istore_n 1 rfl rfl (Nat.le_of_ble_eq_true rfl) [(0, _), (1, _)] rfl ?_
  refine go_iconst 0 2 rfl (by decide) ?_
  refine go_istore_n 3 rfl rfl (Nat.le_of_ble_eq_true rfl) [(0, _), (1, _), (2, _)] rfl ?_
  obtain ⟨r5, c, h⟩ := bd_inv h
  refine w_P_chained_4 _ _ ?_ _ _ c
  refine go_iload_n 34 rfl 1 rfl rfl ?_
  cases h
  exact go_ireturn 35 rfl rfl rfl ⟨rfl, rfl⟩
def X_P_comesBack : MX := (⟨"OmegaDesk$Passage", "comesBack", "(III)Z"⟩, prog_4_method_7_code, 4, some .boolean, { frames := 1, cells := 0, slots := 0, locals := 21 },
  [(0, .iconst 0, 1), (1, .istore_n 3, 2), (2, .iload_n 3, 3), (3, .iconst 4, 4), (4, .if_icmp .ge 31, 7), (7, .iload_n 1, 8), (8, .iload_n 3, 9), (9, .ishr, 10), (10, .iconst 1, 11), (11, .iand, 12), (12, .ifCond .eq 17, 15), (15, .iload_n 0, 16), (16, .iload_n 3, 17), (17, .invokestatic 11, 20), (20, .iload_n 2, 21), (21, .ishr, 22), (22, .iconst 1, 23), (23, .iand, 24), (24, .ifCond .eq 5, 27), (27, .iconst 1, 28), (28, .ireturn, 29), (29, .iinc 3 1, 32), (32, .goto (-30), 35), (35, .iconst 0, 36), (36, .ireturn, 37)])
set_option maxRecDepth 20000 in
theorem mk_P_comesBack : Mk X_P_comesBack := ⟨by unfold TBk; decide +kernel, by decide +kernel, wb_348, ⟨by decide, by decide⟩, rfl, rfl, wb_14⟩
def b_P_comesBack_2 (c0 : Int32) (c1 : Int32) (c2 : Int32) (s : Int32) : Option ((Int32) ⊕ ((Int32) ⊕ (Bool))) :=
  if (4 : Int32) ≤ s then
    some (Sum.inr (Sum.inl s))
  else
    if ((c1 >>> (s &&& 31)) &&& (1 : Int32)) = 0 then
      some (Sum.inl (s + 1))
    else
      bd (m_P_ends c0 s) fun r1 =>
      if ((r1 >>> (c2 &&& 31)) &&& (1 : Int32)) = 0 then
        some (Sum.inl (s + 1))
      else
        some (Sum.inr (Sum.inr true))
def m_P_comesBack (a0 : Int32) (a1 : Int32) (a2 : Int32) : Option (Bool) :=
  bd (lp (b_P_comesBack_2 a0 a1 a2) (0 : Int32)) fun r2 =>
  smr r2 (fun v4 => some v4) fun s3 =>
  some false
set_option maxRecDepth 20000 in
theorem w_P_comesBack_2 {l : Launch} {post : Option PV → Mm → Prop} (c0 : Int32) (c1 : Int32) (c2 : Int32) (M : Mm)  {r : (Int32) ⊕ (Bool)} (kk : ∀ s2, r = Sum.inl s2 → Go l X_P_comesBack post 35 [(0, vi c0), (1, vi c1), (2, vi c2), (3, vi s2)] [] M) (kr : ∀ v, r = Sum.inr v → post (some (vi (bI v))) M) : ∀ (n : Nat) (s : Int32), lpN (b_P_comesBack_2 c0 c1 c2) n s = some r → Go l X_P_comesBack post 2 [(0, vi c0), (1, vi c1), (2, vi c2), (3, vi s)] [] M := by
  intro n
  induction n with
  | zero => intro s hc; exact (lpN_0 hc).elim
  | succ n ih =>
    intro s hc
    obtain ⟨q, h, hc⟩ := lpN_inv hc
    unfold b_P_comesBack_2 at h
    refine go_iload_n 2 rfl 3 rfl rfl ?_
    refine go_iconst 4 3 rfl (by decide) ?_
    refine go_icmp_ge 35 4 rfl (by decide) (fun c => ?_) (fun c => ?_)
    · replace h := ite_t c h
      cases h
      obtain rfl := lpq_r hc
      exact kk _ rfl
    · replace h := ite_f c h
      refine go_iload_n 5 rfl 1 rfl rfl ?_
      refine go_iload_n 6 rfl 3 rfl rfl ?_
      refine go_ishr 7 rfl ?_
      refine go_iconst 1 8 rfl (by decide) ?_
      refine go_iand 9 rfl ?_
      refine go_if_eq 29 10 rfl (by decide) (fun c => ?_) (fun c => ?_)
      · replace h := ite_t c h
        refine go_iinc 1 21 rfl 3 rfl (by decide) (Nat.le_of_ble_eq_true rfl) [(0, _), (1, _), (2, _), (3, _)] rfl ?_
        refine go_goto 2 22 rfl (by decide) ?_
        cases h
        exact ih _ hc
      · replace h := ite_f c h
        refine go_iload_n 11 rfl 0 rfl rfl ?_
        refine go_iload_n 12 rfl 3 rfl rfl ?_
        obtain ⟨r1, c, h⟩ := bd_inv h
        refine go_callS _ 13 rfl (e_P_ends c) mk_P_ends cs_P_11 rfl ⟨(Nat.le_of_ble_eq_true rfl), (Nat.le_of_ble_eq_true rfl)⟩ (Nat.le_of_ble_eq_true rfl) rfl ?_
        rintro _ _ ⟨rfl, rfl⟩
        refine go_iload_n 14 rfl 2 rfl rfl ?_
        refine go_ishr 15 rfl ?_
        refine go_iconst 1 16 rfl (by decide) ?_
        refine go_iand 17 rfl ?_
        refine go_if_eq 29 18 rfl (by decide) (fun c => ?_) (fun c => ?_)
        · replace h := ite_t c h
          refine go_iinc 1 21 rfl 3 rfl (by decide) (Nat.le_of_ble_eq_true rfl) [(0, _), (1, _), (2, _), (3, _)] rfl ?_
          refine go_goto 2 22 rfl (by decide) ?_
          cases h
          exact ih _ hc
        · replace h := ite_f c h
          refine go_iconst 1 19 rfl (by decide) ?_
          cases h
          obtain rfl := lpq_r hc
          exact go_ireturn 20 rfl rfl rfl (kr _ rfl)
set_option maxRecDepth 20000 in
theorem e_P_comesBack {l : Launch} {a0 : Int32} {a1 : Int32} {a2 : Int32} {M : Mm} {r : Bool}  (h : m_P_comesBack a0 a1 a2 = some r) : Ev l X_P_comesBack [vi a0, vi a1, vi a2] M (fun v M2 => v = (some (vi (bI r))) ∧ M2 = M) := by
  refine Ev.of mk_P_comesBack [(0, vi a0), (1, vi a1), (2, vi a2)] (fun _ => rfl) (fun _ => (Nat.le_of_ble_eq_true rfl)) ?_
  unfold m_P_comesBack at h
  refine go_iconst 0 0 rfl (by decide) ?_
  refine go_istore_n 1 rfl rfl (Nat.le_of_ble_eq_true rfl) [(0, _), (1, _), (2, _), (3, _)] rfl ?_
  obtain ⟨r2, c, h⟩ := bd_inv h
  refine w_P_comesBack_2 _ _ _ _ (fun s2 e => ?_) (fun v e => ?_) _ _ c
  · subst e
    replace h := smr_l h
    refine go_iconst 0 23 rfl (by decide) ?_
    cases h
    exact go_ireturn 24 rfl rfl rfl ⟨rfl, rfl⟩
  · subst e
    replace h := smr_r h
    cases h
    exact ⟨rfl, rfl⟩
def X_P_takenRepeated : MX := (⟨"OmegaDesk$Passage", "takenRepeated", "(I)I"⟩, prog_4_method_6_code, 5, some .int, { frames := 2, cells := 0, slots := 0, locals := 44 },
  [(0, .iload_n 0, 1), (1, .ldc 15, 3), (3, .iand, 4), (4, .ifCond .ne 5, 7), (7, .iconst 0, 8), (8, .ireturn, 9), (9, .iload_n 0, 10), (10, .invokestatic 16, 13), (13, .istore_n 1, 14), (14, .iconst 0, 15), (15, .istore_n 2, 16), (16, .iconst 0, 17), (17, .istore_n 3, 18), (18, .iload_n 3, 19), (19, .iconst 4, 20), (20, .if_icmp .ge 28, 23), (23, .iload_n 1, 24), (24, .iload_n 0, 25), (25, .iload_n 3, 26), (26, .invokestatic 20, 29), (29, .iload_n 3, 30), (30, .invokestatic 23, 33), (33, .ifCond .eq 9, 36), (36, .iload_n 2, 37), (37, .iconst 1, 38), (38, .iload_n 3, 39), (39, .ishl, 40), (40, .ior, 41), (41, .istore_n 2, 42), (42, .iinc 3 1, 45), (45, .goto (-27), 48), (48, .iconst 0, 49), (49, .istore_n 3, 50), (50, .iconst 0, 51), (51, .istore 4, 53), (53, .iload 4, 55), (55, .iconst 4, 56), (56, .if_icmp .ge 27, 59), (59, .iload_n 1, 60), (60, .iload 4, 62), (62, .invokestatic 11, 65), (65, .iload_n 2, 66), (66, .iand, 67), (67, .ifCond .eq 10, 70), (70, .iload_n 3, 71), (71, .iconst 1, 72), (72, .iload 4, 74), (74, .ishl, 75), (75, .ior, 76), (76, .istore_n 3, 77), (77, .iinc 4 1, 80), (80, .goto (-27), 83), (83, .iload_n 3, 84), (84, .ireturn, 85)])
set_option maxRecDepth 20000 in
theorem mk_P_takenRepeated : Mk X_P_takenRepeated := ⟨by unfold TBk; decide +kernel, by decide +kernel, wb_342, ⟨by decide, by decide⟩, rfl, rfl, wb_14⟩
theorem cs_P_16 : CS "OmegaDesk$Passage" 16 X_P_chained 1 := ⟨Or.inl wb_344, wb_334, by decide +kernel⟩
theorem cs_P_20 : CS "OmegaDesk$Passage" 20 X_P_goodEnds 2 := ⟨Or.inl wb_345, wb_331, by decide +kernel⟩
theorem cs_P_23 : CS "OmegaDesk$Passage" 23 X_P_comesBack 3 := ⟨Or.inl wb_346, wb_347, by decide +kernel⟩
def b_P_takenRepeated_18 (c0 : Int32) (c1 : Int32) (s : Int32 × Int32) : Option ((Int32 × Int32) ⊕ (Int32 × Int32)) :=
  if (4 : Int32) ≤ s.2 then
    some (Sum.inr (s.1, s.2))
  else
    bd (m_P_goodEnds c0 s.2) fun r2 =>
    bd (m_P_comesBack c1 r2 s.2) fun r3 =>
    if (bI r3) = 0 then
      some (Sum.inl (s.1, (s.2 + 1)))
    else
      some (Sum.inl ((s.1 ||| ((1 : Int32) <<< (s.2 &&& 31))), (s.2 + 1)))
def b_P_takenRepeated_53 (c1 : Int32) (c2 : Int32) (s : Int32 × Int32) : Option ((Int32 × Int32) ⊕ (Int32 × Int32)) :=
  if (4 : Int32) ≤ s.2 then
    some (Sum.inr (s.1, s.2))
  else
    bd (m_P_ends c1 s.2) fun r5 =>
    if (r5 &&& c2) = 0 then
      some (Sum.inl (s.1, (s.2 + 1)))
    else
      some (Sum.inl ((s.1 ||| ((1 : Int32) <<< (s.2 &&& 31))), (s.2 + 1)))
def m_P_takenRepeated (a0 : Int32) : Option (Int32) :=
  if (a0 &&& (-252645136 : Int32)) = 0 then
    some (0 : Int32)
  else
    bd (m_P_chained a0) fun r1 =>
    bd (lp (b_P_takenRepeated_18 a0 r1) ((0 : Int32), (0 : Int32))) fun r4 =>
    bd (lp (b_P_takenRepeated_53 r1 r4.1) ((0 : Int32), (0 : Int32))) fun r6 =>
    some r6.1
set_option maxRecDepth 20000 in
theorem w_P_takenRepeated_18 {l : Launch} {post : Option PV → Mm → Prop} (c0 : Int32) (c1 : Int32) (M : Mm)  {r : Int32 × Int32} (kk : Go l X_P_takenRepeated post 48 [(0, vi c0), (1, vi c1), (2, vi r.1), (3, vi r.2)] [] M) : ∀ (n : Nat) (s : Int32 × Int32), lpN (b_P_takenRepeated_18 c0 c1) n s = some r → Go l X_P_takenRepeated post 18 [(0, vi c0), (1, vi c1), (2, vi s.1), (3, vi s.2)] [] M := by
  intro n
  induction n with
  | zero => intro s hc; exact (lpN_0 hc).elim
  | succ n ih =>
    intro s hc
    obtain ⟨q, h, hc⟩ := lpN_inv hc
    unfold b_P_takenRepeated_18 at h
    refine go_iload_n 13 rfl 3 rfl rfl ?_
    refine go_iconst 4 14 rfl (by decide) ?_
    refine go_icmp_ge 48 15 rfl (by decide) (fun c => ?_) (fun c => ?_)
    · replace h := ite_t c h
      cases h
      obtain rfl := lpq_r hc
      exact kk
    · replace h := ite_f c h
      refine go_iload_n 16 rfl 1 rfl rfl ?_
      refine go_iload_n 17 rfl 0 rfl rfl ?_
      refine go_iload_n 18 rfl 3 rfl rfl ?_
      obtain ⟨r2, c, h⟩ := bd_inv h
      refine go_callS _ 19 rfl (e_P_goodEnds c) mk_P_goodEnds cs_P_20 rfl ⟨(Nat.le_of_ble_eq_true rfl), (Nat.le_of_ble_eq_true rfl)⟩ (Nat.le_of_ble_eq_true rfl) rfl ?_
      rintro _ _ ⟨rfl, rfl⟩
      refine go_iload_n 20 rfl 3 rfl rfl ?_
      obtain ⟨r3, c, h⟩ := bd_inv h
      refine go_callS _ 21 rfl (e_P_comesBack c) mk_P_comesBack cs_P_23 rfl ⟨(Nat.le_of_ble_eq_true rfl), (Nat.le_of_ble_eq_true rfl)⟩ (Nat.le_of_ble_eq_true rfl) rfl ?_
      rintro _ _ ⟨rfl, rfl⟩
      refine go_if_eq 42 22 rfl (by decide) (fun c => ?_) (fun c => ?_)
      · replace h := ite_t c h
        refine go_iinc 1 29 rfl 3 rfl (by decide) (Nat.le_of_ble_eq_true rfl) [(0, _), (1, _), (2, _), (3, _)] rfl ?_
        refine go_goto 18 30 rfl (by decide) ?_
        cases h
        exact ih _ hc
      · replace h := ite_f c h
        refine go_iload_n 23 rfl 2 rfl rfl ?_
        refine go_iconst 1 24 rfl (by decide) ?_
        refine go_iload_n 25 rfl 3 rfl rfl ?_
        refine go_ishl 26 rfl ?_
        refine go_ior 27 rfl ?_
        refine go_istore_n 28 rfl rfl (Nat.le_of_ble_eq_true rfl) [(0, _), (1, _), (2, _), (3, _)] rfl ?_
        refine go_iinc 1 29 rfl 3 rfl (by decide) (Nat.le_of_ble_eq_true rfl) [(0, _), (1, _), (2, _), (3, _)] rfl ?_
        refine go_goto 18 30 rfl (by decide) ?_
        cases h
        exact ih _ hc
set_option maxRecDepth 20000 in
theorem w_P_takenRepeated_53 {l : Launch} {post : Option PV → Mm → Prop} (c0 : Int32) (c1 : Int32) (c2 : Int32) (M : Mm)  {r : Int32 × Int32} (kk : Go l X_P_takenRepeated post 83 [(0, vi c0), (1, vi c1), (2, vi c2), (3, vi r.1), (4, vi r.2)] [] M) : ∀ (n : Nat) (s : Int32 × Int32), lpN (b_P_takenRepeated_53 c1 c2) n s = some r → Go l X_P_takenRepeated post 53 [(0, vi c0), (1, vi c1), (2, vi c2), (3, vi s.1), (4, vi s.2)] [] M := by
  intro n
  induction n with
  | zero => intro s hc; exact (lpN_0 hc).elim
  | succ n ih =>
    intro s hc
    obtain ⟨q, h, hc⟩ := lpN_inv hc
    unfold b_P_takenRepeated_53 at h
    refine go_iload 35 rfl 4 rfl ?_
    refine go_iconst 4 36 rfl (by decide) ?_
    refine go_icmp_ge 83 37 rfl (by decide) (fun c => ?_) (fun c => ?_)
    · replace h := ite_t c h
      cases h
      obtain rfl := lpq_r hc
      exact kk
    · replace h := ite_f c h
      refine go_iload_n 38 rfl 1 rfl rfl ?_
      refine go_iload 39 rfl 4 rfl ?_
      obtain ⟨r5, c, h⟩ := bd_inv h
      refine go_callS _ 40 rfl (e_P_ends c) mk_P_ends cs_P_11 rfl ⟨(Nat.le_of_ble_eq_true rfl), (Nat.le_of_ble_eq_true rfl)⟩ (Nat.le_of_ble_eq_true rfl) rfl ?_
      rintro _ _ ⟨rfl, rfl⟩
      refine go_iload_n 41 rfl 2 rfl rfl ?_
      refine go_iand 42 rfl ?_
      refine go_if_eq 77 43 rfl (by decide) (fun c => ?_) (fun c => ?_)
      · replace h := ite_t c h
        refine go_iinc 1 50 rfl 4 rfl (by decide) (Nat.le_of_ble_eq_true rfl) [(0, _), (1, _), (2, _), (3, _), (4, _)] rfl ?_
        refine go_goto 53 51 rfl (by decide) ?_
        cases h
        exact ih _ hc
      · replace h := ite_f c h
        refine go_iload_n 44 rfl 3 rfl rfl ?_
        refine go_iconst 1 45 rfl (by decide) ?_
        refine go_iload 46 rfl 4 rfl ?_
        refine go_ishl 47 rfl ?_
        refine go_ior 48 rfl ?_
        refine go_istore_n 49 rfl rfl (Nat.le_of_ble_eq_true rfl) [(0, _), (1, _), (2, _), (3, _), (4, _)] rfl ?_
        refine go_iinc 1 50 rfl 4 rfl (by decide) (Nat.le_of_ble_eq_true rfl) [(0, _), (1, _), (2, _), (3, _), (4, _)] rfl ?_
        refine go_goto 53 51 rfl (by decide) ?_
        cases h
        exact ih _ hc
set_option maxRecDepth 20000 in
theorem e_P_takenRepeated {l : Launch} {a0 : Int32} {M : Mm} {r : Int32}  (h : m_P_takenRepeated a0 = some r) : Ev l X_P_takenRepeated [vi a0] M (fun v M2 => v = (some (vi r)) ∧ M2 = M) := by
  refine Ev.of mk_P_takenRepeated [(0, vi a0)] (fun _ => rfl) (fun _ => (Nat.le_of_ble_eq_true rfl)) ?_
  unfold m_P_takenRepeated at h
  refine go_iload_n 0 rfl 0 rfl rfl ?_
  refine go_ldc (-252645136) 1 rfl wb_343 ?_
  refine go_iand 2 rfl ?_
  refine go_if_ne 9 3 rfl (by decide) (fun c => ?_) (fun c => ?_)
  · replace h := ite_f c h
    refine go_iload_n 6 rfl 0 rfl rfl ?_
    obtain ⟨r1, c, h⟩ := bd_inv h
    refine go_callS _ 7 rfl (e_P_chained c) mk_P_chained cs_P_16 rfl ⟨(Nat.le_of_ble_eq_true rfl), (Nat.le_of_ble_eq_true rfl)⟩ (Nat.le_of_ble_eq_true rfl) rfl ?_
    rintro _ _ ⟨rfl, rfl⟩
    refine go_istore_n 8 rfl rfl (Nat.le_of_ble_eq_true rfl) [(0, _), (1, _)] rfl ?_
    refine go_iconst 0 9 rfl (by decide) ?_
    refine go_istore_n 10 rfl rfl (Nat.le_of_ble_eq_true rfl) [(0, _), (1, _), (2, _)] rfl ?_
    refine go_iconst 0 11 rfl (by decide) ?_
    refine go_istore_n 12 rfl rfl (Nat.le_of_ble_eq_true rfl) [(0, _), (1, _), (2, _), (3, _)] rfl ?_
    obtain ⟨r4, c, h⟩ := bd_inv h
    refine w_P_takenRepeated_18 _ _ _ ?_ _ _ c
    refine go_iconst 0 31 rfl (by decide) ?_
    refine go_istore_n 32 rfl rfl (Nat.le_of_ble_eq_true rfl) [(0, _), (1, _), (2, _), (3, _)] rfl ?_
    refine go_iconst 0 33 rfl (by decide) ?_
    refine go_istore 34 rfl (Nat.le_of_ble_eq_true rfl) [(0, _), (1, _), (2, _), (3, _), (4, _)] rfl ?_
    obtain ⟨r6, c, h⟩ := bd_inv h
    refine w_P_takenRepeated_53 _ _ _ _ ?_ _ _ c
    refine go_iload_n 52 rfl 3 rfl rfl ?_
    cases h
    exact go_ireturn 53 rfl rfl rfl ⟨rfl, rfl⟩
  · replace h := ite_t c h
    refine go_iconst 0 4 rfl (by decide) ?_
    cases h
    exact go_ireturn 5 rfl rfl rfl ⟨rfl, rfl⟩
end
