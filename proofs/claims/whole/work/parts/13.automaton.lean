def X_A_hasState : MX := (⟨"OmegaDesk$Automaton", "hasState", "(I)Z"⟩, prog_2_method_2_code, 2, some .boolean, { frames := 0, cells := 0, slots := 0, locals := 0 },
  [(0, .iload_n 1, 1), (1, .ifCond .lt 15, 4), (4, .iload_n 1, 5), (5, .aload_n 0, 6), (6, .getfield 9, 9), (9, .if_icmp .ge 7, 12), (12, .iconst 1, 13), (13, .goto 4, 16), (16, .iconst 0, 17), (17, .ireturn, 18)])
set_option maxRecDepth 20000 in
theorem mk_A_hasState : Mk X_A_hasState := ⟨by unfold TBk; decide +kernel, by decide +kernel, wb_249, ⟨by decide, by decide⟩, rfl, rfl, wb_2⟩
theorem fg_A_9 : FG "OmegaDesk$Automaton" 9 0 0 := ⟨R_A, F_A, 3, rfl, by decide, uw_A, Or.inl wb_32⟩
def m_A_hasState (a0 : Nat) (a1 : Int32) (M : Mm) : Option (Bool) :=
  if a1 < 0 then
    some false
  else
    if (M.1 (0, a0) 0) ≤ a1 then
      some false
    else
      some true
set_option maxRecDepth 20000 in
theorem e_A_hasState {l : Launch} {a0 : Nat} {a1 : Int32} {M : Mm} {r : Bool} (h0 : a0 < 7) (h : m_A_hasState a0 a1 M = some r) : Ev l X_A_hasState [vr 0 a0, vi a1] M (fun v M2 => v = (some (vi (bI r))) ∧ M2 = M) := by
  refine Ev.of mk_A_hasState [(0, vr 0 a0), (1, vi a1)] (fun _ => rfl) (fun _ => (Nat.le_of_ble_eq_true rfl)) ?_
  unfold m_A_hasState at h
  refine go_iload_n 0 rfl 1 rfl rfl ?_
  refine go_if_lt 16 1 rfl (by decide) (fun c => ?_) (fun c => ?_)
  · replace h := ite_t c h
    refine go_iconst 0 8 rfl (by decide) ?_
    cases h
    exact go_ireturn 9 rfl rfl rfl ⟨rfl, rfl⟩
  · replace h := ite_f c h
    refine go_iload_n 2 rfl 1 rfl rfl ?_
    refine go_aload_n 3 rfl 0 rfl rfl ?_
    refine go_getfield 0 _ 4 rfl (by first | decide | exact ok0 (by omega) | exact ok1 (by omega) | exact ok2 (by omega) | exact ok7 (by omega)) rfl fg_A_9 rfl ?_
    refine go_icmp_ge 16 5 rfl (by decide) (fun c => ?_) (fun c => ?_)
    · replace h := ite_t c h
      refine go_iconst 0 8 rfl (by decide) ?_
      cases h
      exact go_ireturn 9 rfl rfl rfl ⟨rfl, rfl⟩
    · replace h := ite_f c h
      refine go_iconst 1 6 rfl (by decide) ?_
      refine go_goto 17 7 rfl (by decide) ?_
      cases h
      exact go_ireturn 9 rfl rfl rfl ⟨rfl, rfl⟩
def X_A_isGood : MX := (⟨"OmegaDesk$Automaton", "isGood", "(I)Z"⟩, prog_2_method_3_code, 2, some .boolean, { frames := 0, cells := 0, slots := 0, locals := 0 },
  [(0, .aload_n 0, 1), (1, .getfield 15, 4), (4, .iload_n 1, 5), (5, .ishr, 6), (6, .iconst 1, 7), (7, .iand, 8), (8, .ifCond .eq 7, 11), (11, .iconst 1, 12), (12, .goto 4, 15), (15, .iconst 0, 16), (16, .ireturn, 17)])
set_option maxRecDepth 20000 in
theorem mk_A_isGood : Mk X_A_isGood := ⟨by unfold TBk; decide +kernel, by decide +kernel, wb_294, ⟨by decide, by decide⟩, rfl, rfl, wb_2⟩
theorem fg_A_15 : FG "OmegaDesk$Automaton" 15 0 1 := ⟨R_A, F_A, 3, rfl, by decide, uw_A, Or.inl wb_36⟩
def m_A_isGood (a0 : Nat) (a1 : Int32) (M : Mm) : Option (Bool) :=
  if (((M.1 (0, a0) 1) >>> (a1 &&& 31)) &&& (1 : Int32)) = 0 then
    some false
  else
    some true
set_option maxRecDepth 20000 in
theorem e_A_isGood {l : Launch} {a0 : Nat} {a1 : Int32} {M : Mm} {r : Bool} (h0 : a0 < 7) (h : m_A_isGood a0 a1 M = some r) : Ev l X_A_isGood [vr 0 a0, vi a1] M (fun v M2 => v = (some (vi (bI r))) ∧ M2 = M) := by
  refine Ev.of mk_A_isGood [(0, vr 0 a0), (1, vi a1)] (fun _ => rfl) (fun _ => (Nat.le_of_ble_eq_true rfl)) ?_
  unfold m_A_isGood at h
  refine go_aload_n 0 rfl 0 rfl rfl ?_
  refine go_getfield 1 _ 1 rfl (by first | decide | exact ok0 (by omega) | exact ok1 (by omega) | exact ok2 (by omega) | exact ok7 (by omega)) rfl fg_A_15 rfl ?_
  refine go_iload_n 2 rfl 1 rfl rfl ?_
  refine go_ishr 3 rfl ?_
  refine go_iconst 1 4 rfl (by decide) ?_
  refine go_iand 5 rfl ?_
  refine go_if_eq 15 6 rfl (by decide) (fun c => ?_) (fun c => ?_)
  · replace h := ite_t c h
    refine go_iconst 0 9 rfl (by decide) ?_
    cases h
    exact go_ireturn 10 rfl rfl rfl ⟨rfl, rfl⟩
  · replace h := ite_f c h
    refine go_iconst 1 7 rfl (by decide) ?_
    refine go_goto 16 8 rfl (by decide) ?_
    cases h
    exact go_ireturn 10 rfl rfl rfl ⟨rfl, rfl⟩
def X_A_followersOf : MX := (⟨"OmegaDesk$Automaton", "followersOf", "(II)I"⟩, prog_2_method_5_code, 3, some .int, { frames := 0, cells := 0, slots := 0, locals := 0 },
  [(0, .aload_n 0, 1), (1, .getfield 18, 4), (4, .iload_n 2, 5), (5, .iconst 1, 6), (6, .iand, 7), (7, .bipush 16, 9), (9, .imul, 10), (10, .iload_n 1, 11), (11, .bipush 15, 13), (13, .iand, 14), (14, .iadd, 15), (15, .iaload, 16), (16, .ireturn, 17)])
set_option maxRecDepth 20000 in
theorem mk_A_followersOf : Mk X_A_followersOf := ⟨by unfold TBk; decide +kernel, by decide +kernel, wb_259, ⟨by decide, by decide⟩, rfl, rfl, wb_2⟩
theorem fg_A_18 : FG "OmegaDesk$Automaton" 18 0 2 := ⟨R_A, F_A, 3, rfl, by decide, uw_A, Or.inl wb_38⟩
def m_A_followersOf (a0 : Nat) (a1 : Int32) (a2 : Int32) (M : Mm) : Option (Int32) :=
  ck (inb (((a2 &&& (1 : Int32)) * (16 : Int32)) + (a1 &&& (15 : Int32))) (lenI a0)) <|
  some (M.1 (1, a0) (((a2 &&& (1 : Int32)) * (16 : Int32)) + (a1 &&& (15 : Int32))).toNatClampNeg)
set_option maxRecDepth 20000 in
theorem e_A_followersOf {l : Launch} {a0 : Nat} {a1 : Int32} {a2 : Int32} {M : Mm} {r : Int32} (h0 : a0 < 7) (h : m_A_followersOf a0 a1 a2 M = some r) : Ev l X_A_followersOf [vr 0 a0, vi a1, vi a2] M (fun v M2 => v = (some (vi r)) ∧ M2 = M) := by
  refine Ev.of mk_A_followersOf [(0, vr 0 a0), (1, vi a1), (2, vi a2)] (fun _ => rfl) (fun _ => (Nat.le_of_ble_eq_true rfl)) ?_
  unfold m_A_followersOf at h
  refine go_aload_n 0 rfl 0 rfl rfl ?_
  refine go_getfield 2 _ 1 rfl (by first | decide | exact ok0 (by omega) | exact ok1 (by omega) | exact ok2 (by omega) | exact ok7 (by omega)) rfl fg_A_18 rfl ?_
  refine go_iload_n 2 rfl 2 rfl rfl ?_
  refine go_iconst 1 3 rfl (by decide) ?_
  refine go_iand 4 rfl ?_
  refine go_bipush 16 5 rfl (by decide) ?_
  refine go_imul 6 rfl ?_
  refine go_iload_n 7 rfl 1 rfl rfl ?_
  refine go_bipush 15 8 rfl (by decide) ?_
  refine go_iand 9 rfl ?_
  refine go_iadd 10 rfl ?_
  obtain ⟨c, h⟩ := ck_inv h
  refine go_iaload 11 rfl (by first | decide | exact ok0 (by omega) | exact ok1 (by omega) | exact ok2 (by omega) | exact ok7 (by omega)) (inb_vp c) ?_
  cases h
  exact go_ireturn 12 rfl rfl rfl ⟨rfl, rfl⟩
def X_A_joins : MX := (⟨"OmegaDesk$Automaton", "joins", "(III)Z"⟩, prog_2_method_4_code, 4, some .boolean, { frames := 1, cells := 0, slots := 0, locals := 22 },
  [(0, .aload_n 0, 1), (1, .iconst 1, 2), (2, .iload_n 1, 3), (3, .ishl, 4), (4, .iload_n 2, 5), (5, .invokevirtual 22, 8), (8, .iload_n 3, 9), (9, .ishr, 10), (10, .iconst 1, 11), (11, .iand, 12), (12, .ifCond .eq 7, 15), (15, .iconst 1, 16), (16, .goto 4, 19), (19, .iconst 0, 20), (20, .ireturn, 21)])
set_option maxRecDepth 20000 in
theorem mk_A_joins : Mk X_A_joins := ⟨by unfold TBk; decide +kernel, by decide +kernel, wb_255, ⟨by decide, by decide⟩, rfl, rfl, wb_2⟩
theorem cv_A_22 : CV "OmegaDesk$Automaton" 22 X_A_followersOf 2 0 := ⟨Or.inl wb_256, ⟨wb_257, wb_258⟩, by decide +kernel, F_A, 3, rfl⟩
def m_A_joins (a0 : Nat) (a1 : Int32) (a2 : Int32) (a3 : Int32) (M : Mm) : Option (Bool) :=
  bd (m_A_followersOf a0 ((1 : Int32) <<< (a1 &&& 31)) a2 M) fun r1 =>
  if ((r1 >>> (a3 &&& 31)) &&& (1 : Int32)) = 0 then
    some false
  else
    some true
set_option maxRecDepth 20000 in
theorem e_A_joins {l : Launch} {a0 : Nat} {a1 : Int32} {a2 : Int32} {a3 : Int32} {M : Mm} {r : Bool} (h0 : a0 < 7) (h : m_A_joins a0 a1 a2 a3 M = some r) : Ev l X_A_joins [vr 0 a0, vi a1, vi a2, vi a3] M (fun v M2 => v = (some (vi (bI r))) ∧ M2 = M) := by
  refine Ev.of mk_A_joins [(0, vr 0 a0), (1, vi a1), (2, vi a2), (3, vi a3)] (fun _ => rfl) (fun _ => (Nat.le_of_ble_eq_true rfl)) ?_
  unfold m_A_joins at h
  refine go_aload_n 0 rfl 0 rfl rfl ?_
  refine go_iconst 1 1 rfl (by decide) ?_
  refine go_iload_n 2 rfl 1 rfl rfl ?_
  refine go_ishl 3 rfl ?_
  refine go_iload_n 4 rfl 2 rfl rfl ?_
  obtain ⟨r1, c, h⟩ := bd_inv h
  refine go_callV1 _ 5 rfl (e_A_followersOf (by omega) c) mk_A_followersOf (by first | decide | exact ok0 (by omega) | exact ok1 (by omega) | exact ok2 (by omega) | exact ok7 (by omega)) rfl cv_A_22 rfl ⟨(Nat.le_of_ble_eq_true rfl), (Nat.le_of_ble_eq_true rfl)⟩ (Nat.le_of_ble_eq_true rfl) rfl ?_
  refine go_iload_n 6 rfl 3 rfl rfl ?_
  refine go_ishr 7 rfl ?_
  refine go_iconst 1 8 rfl (by decide) ?_
  refine go_iand 9 rfl ?_
  refine go_if_eq 19 10 rfl (by decide) (fun c => ?_) (fun c => ?_)
  · replace h := ite_t c h
    refine go_iconst 0 13 rfl (by decide) ?_
    cases h
    exact go_ireturn 14 rfl rfl rfl ⟨rfl, rfl⟩
  · replace h := ite_f c h
    refine go_iconst 1 11 rfl (by decide) ?_
    refine go_goto 20 12 rfl (by decide) ?_
    cases h
    exact go_ireturn 14 rfl rfl rfl ⟨rfl, rfl⟩
def X_A_wipe : MX := (⟨"OmegaDesk$Automaton", "wipe", "()V"⟩, prog_2_method_6_code, 1, none, { frames := 1, cells := 0, slots := 0, locals := 23 },
  [(0, .aload_n 0, 1), (1, .iconst 0, 2), (2, .putfield 9, 5), (5, .aload_n 0, 6), (6, .iconst 0, 7), (7, .putfield 15, 10), (10, .aload_n 0, 11), (11, .getfield 18, 14), (14, .iconst 0, 15), (15, .invokestatic 26, 18), (18, .return_, 19)])
set_option maxRecDepth 20000 in
theorem mk_A_wipe : Mk X_A_wipe := ⟨by unfold TBk; decide +kernel, by decide +kernel, wb_274, ⟨by decide, by decide⟩, rfl, rfl, wb_2⟩
theorem fp_A_9 : FP "OmegaDesk$Automaton" 9 0 0 .int := ⟨R_A, F_A, 3, tf_A, rfl, by decide, uw_A, Or.inl wb_32, tf_A_ok, nf_A, rfl, by decide +kernel⟩
theorem fp_A_15 : FP "OmegaDesk$Automaton" 15 0 1 .int := ⟨R_A, F_A, 3, tf_A, rfl, by decide, uw_A, Or.inl wb_36, tf_A_ok, nf_A, rfl, by decide +kernel⟩
theorem cs_A_26 : CS "OmegaDesk$Automaton" 26 X_Y_fill 2 := ⟨Or.inl wb_275, wb_276, by decide +kernel⟩
def m_A_wipe (a0 : Nat) (M : Mm) : Option (Mm) :=
  bd (some (uI M (0, a0) 0 (0 : Int32))) fun M1 =>
  bd (some (uI M1 (0, a0) 1 (0 : Int32))) fun M2 =>
  bd (m_Y_fill a0 (0 : Int32) M2) fun r3 =>
  some r3
set_option maxRecDepth 20000 in
theorem e_A_wipe {l : Launch} {a0 : Nat} {M : Mm} {r : Mm} (h0 : a0 < 7) (h : m_A_wipe a0 M = some r) : Ev l X_A_wipe [vr 0 a0] M (fun v M2 => v = none ∧ M2 = r) := by
  refine Ev.of mk_A_wipe [(0, vr 0 a0)] (fun _ => rfl) (fun _ => (Nat.le_of_ble_eq_true rfl)) ?_
  unfold m_A_wipe at h
  refine go_aload_n 0 rfl 0 rfl rfl ?_
  refine go_iconst 0 1 rfl (by decide) ?_
  refine go_putfield 0 .int 2 rfl (by first | decide | exact ok0 (by omega) | exact ok1 (by omega) | exact ok2 (by omega) | exact ok7 (by omega)) rfl fp_A_9 rfl rfl (Nat.le_of_ble_eq_true rfl) rfl ?_
  obtain ⟨_, c, h⟩ := bd_inv h
  cases c
  refine go_aload_n 3 rfl 0 rfl rfl ?_
  refine go_iconst 0 4 rfl (by decide) ?_
  refine go_putfield 1 .int 5 rfl (by first | decide | exact ok0 (by omega) | exact ok1 (by omega) | exact ok2 (by omega) | exact ok7 (by omega)) rfl fp_A_15 rfl rfl (Nat.le_of_ble_eq_true rfl) rfl ?_
  obtain ⟨_, c, h⟩ := bd_inv h
  cases c
  refine go_aload_n 6 rfl 0 rfl rfl ?_
  refine go_getfield 2 _ 7 rfl (by first | decide | exact ok0 (by omega) | exact ok1 (by omega) | exact ok2 (by omega) | exact ok7 (by omega)) rfl fg_A_18 rfl ?_
  refine go_iconst 0 8 rfl (by decide) ?_
  obtain ⟨r3, c, h⟩ := bd_inv h
  refine go_callS1 _ 9 rfl (e_Y_fill (by omega) c) mk_Y_fill cs_A_26 rfl ⟨(Nat.le_of_ble_eq_true rfl), (Nat.le_of_ble_eq_true rfl)⟩ (Nat.le_of_ble_eq_true rfl) rfl ?_
  cases h
  exact go_return 10 rfl rfl ⟨rfl, rfl⟩
def X_A_addState : MX := (⟨"OmegaDesk$Automaton", "addState", "(Z)I"⟩, prog_2_method_7_code, 3, some .int, { frames := 0, cells := 0, slots := 0, locals := 0 },
  [(0, .aload_n 0, 1), (1, .getfield 9, 4), (4, .istore_n 2, 5), (5, .aload_n 0, 6), (6, .iload_n 2, 7), (7, .iconst 1, 8), (8, .iadd, 9), (9, .putfield 9, 12), (12, .iload_n 1, 13), (13, .ifCond .eq 15, 16), (16, .aload_n 0, 17), (17, .dup, 18), (18, .getfield 15, 21), (21, .iconst 1, 22), (22, .iload_n 2, 23), (23, .ishl, 24), (24, .ior, 25), (25, .putfield 15, 28), (28, .iload_n 2, 29), (29, .ireturn, 30)])
set_option maxRecDepth 20000 in
theorem mk_A_addState : Mk X_A_addState := ⟨by unfold TBk; decide +kernel, by decide +kernel, wb_234, ⟨by decide, by decide⟩, rfl, rfl, wb_2⟩
def m_A_addState (a0 : Nat) (a1 : Bool) (M : Mm) : Option (Int32 × Mm) :=
  bd (some (uI M (0, a0) 0 ((M.1 (0, a0) 0) + (1 : Int32)))) fun M1 =>
  if (bI a1) = 0 then
    some ((M.1 (0, a0) 0), M1)
  else
    bd (some (uI M1 (0, a0) 1 ((M1.1 (0, a0) 1) ||| ((1 : Int32) <<< ((M.1 (0, a0) 0) &&& 31))))) fun M2 =>
    some ((M.1 (0, a0) 0), M2)
set_option maxRecDepth 20000 in
theorem e_A_addState {l : Launch} {a0 : Nat} {a1 : Bool} {M : Mm} {r : Int32 × Mm} (h0 : a0 < 7) (h : m_A_addState a0 a1 M = some r) : Ev l X_A_addState [vr 0 a0, vi (bI a1)] M (fun v M2 => v = (some (vi r.1)) ∧ M2 = r.2) := by
  refine Ev.of mk_A_addState [(0, vr 0 a0), (1, vi (bI a1))] (fun _ => rfl) (fun _ => (Nat.le_of_ble_eq_true rfl)) ?_
  unfold m_A_addState at h
  refine go_aload_n 0 rfl 0 rfl rfl ?_
  refine go_getfield 0 _ 1 rfl (by first | decide | exact ok0 (by omega) | exact ok1 (by omega) | exact ok2 (by omega) | exact ok7 (by omega)) rfl fg_A_9 rfl ?_
  refine go_istore_n 2 rfl rfl (Nat.le_of_ble_eq_true rfl) [(0, _), (1, _), (2, _)] rfl ?_
  refine go_aload_n 3 rfl 0 rfl rfl ?_
  refine go_iload_n 4 rfl 2 rfl rfl ?_
  refine go_iconst 1 5 rfl (by decide) ?_
  refine go_iadd 6 rfl ?_
  refine go_putfield 0 .int 7 rfl (by first | decide | exact ok0 (by omega) | exact ok1 (by omega) | exact ok2 (by omega) | exact ok7 (by omega)) rfl fp_A_9 rfl rfl (Nat.le_of_ble_eq_true rfl) rfl ?_
  obtain ⟨_, c, h⟩ := bd_inv h
  cases c
  refine go_iload_n 8 rfl 1 rfl rfl ?_
  refine go_if_eq 28 9 rfl (by decide) (fun c => ?_) (fun c => ?_)
  · replace h := ite_t c h
    refine go_iload_n 18 rfl 2 rfl rfl ?_
    cases h
    exact go_ireturn 19 rfl rfl rfl ⟨rfl, rfl⟩
  · replace h := ite_f c h
    refine go_aload_n 10 rfl 0 rfl rfl ?_
    refine go_dup 11 rfl rfl ?_
    refine go_getfield 1 _ 12 rfl (by first | decide | exact ok0 (by omega) | exact ok1 (by omega) | exact ok2 (by omega) | exact ok7 (by omega)) rfl fg_A_15 rfl ?_
    refine go_iconst 1 13 rfl (by decide) ?_
    refine go_iload_n 14 rfl 2 rfl rfl ?_
    refine go_ishl 15 rfl ?_
    refine go_ior 16 rfl ?_
    refine go_putfield 1 .int 17 rfl (by first | decide | exact ok0 (by omega) | exact ok1 (by omega) | exact ok2 (by omega) | exact ok7 (by omega)) rfl fp_A_15 rfl rfl (Nat.le_of_ble_eq_true rfl) rfl ?_
    obtain ⟨_, c, h⟩ := bd_inv h
    cases c
    refine go_iload_n 18 rfl 2 rfl rfl ?_
    cases h
    exact go_ireturn 19 rfl rfl rfl ⟨rfl, rfl⟩
def X_A_join : MX := (⟨"OmegaDesk$Automaton", "join", "(III)V"⟩, prog_2_method_8_code, 5, none, { frames := 0, cells := 0, slots := 0, locals := 0 },
  [(0, .iconst 0, 1), (1, .istore 4, 3), (3, .iload 4, 5), (5, .bipush 16, 7), (7, .if_icmp .ge 38, 10), (10, .iload 4, 12), (12, .iload_n 1, 13), (13, .ishr, 14), (14, .iconst 1, 15), (15, .iand, 16), (16, .ifCond .eq 23, 19), (19, .aload_n 0, 20), (20, .getfield 18, 23), (23, .iload_n 2, 24), (24, .iconst 1, 25), (25, .iand, 26), (26, .bipush 16, 28), (28, .imul, 29), (29, .iload 4, 31), (31, .iadd, 32), (32, .dup2, 33), (33, .iaload, 34), (34, .iconst 1, 35), (35, .iload_n 3, 36), (36, .ishl, 37), (37, .ior, 38), (38, .iastore, 39), (39, .iinc 4 1, 42), (42, .goto (-39), 45), (45, .return_, 46)])
set_option maxRecDepth 20000 in
theorem mk_A_join : Mk X_A_join := ⟨by unfold TBk; decide +kernel, by decide +kernel, wb_263, ⟨by decide, by decide⟩, rfl, rfl, wb_2⟩
def b_A_join_3 (c0 : Nat) (c1 : Int32) (c2 : Int32) (c3 : Int32) (s : Int32 × Mm) : Option ((Int32 × Mm) ⊕ (Int32 × Mm)) :=
  if (16 : Int32) ≤ s.1 then
    some (Sum.inr (s.1, s.2))
  else
    if ((s.1 >>> (c1 &&& 31)) &&& (1 : Int32)) = 0 then
      some (Sum.inl ((s.1 + 1), s.2))
    else
      ck (inb (((c2 &&& (1 : Int32)) * (16 : Int32)) + s.1) (lenI c0)) <|
      ck (inb (((c2 &&& (1 : Int32)) * (16 : Int32)) + s.1) (lenI c0)) <|
      bd (some (uI s.2 (1, c0) (((c2 &&& (1 : Int32)) * (16 : Int32)) + s.1).toNatClampNeg ((s.2.1 (1, c0) (((c2 &&& (1 : Int32)) * (16 : Int32)) + s.1).toNatClampNeg) ||| ((1 : Int32) <<< (c3 &&& 31))))) fun M1 =>
      some (Sum.inl ((s.1 + 1), M1))
def m_A_join (a0 : Nat) (a1 : Int32) (a2 : Int32) (a3 : Int32) (M : Mm) : Option (Mm) :=
  bd (lp (b_A_join_3 a0 a1 a2 a3) ((0 : Int32), M)) fun r2 =>
  some r2.2
set_option maxRecDepth 20000 in
theorem w_A_join_3 {l : Launch} {post : Option PV → Mm → Prop} (c0 : Nat) (c1 : Int32) (c2 : Int32) (c3 : Int32) (h0 : c0 < 7) {r : Int32 × Mm} (kk : Go l X_A_join post 45 [(0, vr 0 c0), (1, vi c1), (2, vi c2), (3, vi c3), (4, vi r.1)] [] r.2) : ∀ (n : Nat) (s : Int32 × Mm), lpN (b_A_join_3 c0 c1 c2 c3) n s = some r → Go l X_A_join post 3 [(0, vr 0 c0), (1, vi c1), (2, vi c2), (3, vi c3), (4, vi s.1)] [] s.2 := by
  intro n
  induction n with
  | zero => intro s hc; exact (lpN_0 hc).elim
  | succ n ih =>
    intro s hc
    obtain ⟨q, h, hc⟩ := lpN_inv hc
    unfold b_A_join_3 at h
    refine go_iload 2 rfl 4 rfl ?_
    refine go_bipush 16 3 rfl (by decide) ?_
    refine go_icmp_ge 45 4 rfl (by decide) (fun c => ?_) (fun c => ?_)
    · replace h := ite_t c h
      cases h
      obtain rfl := lpq_r hc
      exact kk
    · replace h := ite_f c h
      refine go_iload 5 rfl 4 rfl ?_
      refine go_iload_n 6 rfl 1 rfl rfl ?_
      refine go_ishr 7 rfl ?_
      refine go_iconst 1 8 rfl (by decide) ?_
      refine go_iand 9 rfl ?_
      refine go_if_eq 39 10 rfl (by decide) (fun c => ?_) (fun c => ?_)
      · replace h := ite_t c h
        refine go_iinc 1 27 rfl 4 rfl (by decide) (Nat.le_of_ble_eq_true rfl) [(0, _), (1, _), (2, _), (3, _), (4, _)] rfl ?_
        refine go_goto 3 28 rfl (by decide) ?_
        cases h
        have g9 := ih _ hc
        exact g9
      · replace h := ite_f c h
        refine go_aload_n 11 rfl 0 rfl rfl ?_
        refine go_getfield 2 _ 12 rfl (by first | decide | exact ok0 (by omega) | exact ok1 (by omega) | exact ok2 (by omega) | exact ok7 (by omega)) rfl fg_A_18 rfl ?_
        refine go_iload_n 13 rfl 2 rfl rfl ?_
        refine go_iconst 1 14 rfl (by decide) ?_
        refine go_iand 15 rfl ?_
        refine go_bipush 16 16 rfl (by decide) ?_
        refine go_imul 17 rfl ?_
        refine go_iload 18 rfl 4 rfl ?_
        refine go_iadd 19 rfl ?_
        refine go_dup2 20 rfl rfl rfl ?_
        obtain ⟨c, h⟩ := ck_inv h
        refine go_iaload 21 rfl (by first | decide | exact ok0 (by omega) | exact ok1 (by omega) | exact ok2 (by omega) | exact ok7 (by omega)) (inb_vp c) ?_
        refine go_iconst 1 22 rfl (by decide) ?_
        refine go_iload_n 23 rfl 3 rfl rfl ?_
        refine go_ishl 24 rfl ?_
        refine go_ior 25 rfl ?_
        obtain ⟨c, h⟩ := ck_inv h
        refine go_iastore 26 rfl (by first | decide | exact ok0 (by omega) | exact ok1 (by omega) | exact ok2 (by omega) | exact ok7 (by omega)) (inb_vp c) ?_
        obtain ⟨_, c, h⟩ := bd_inv h
        cases c
        refine go_iinc 1 27 rfl 4 rfl (by decide) (Nat.le_of_ble_eq_true rfl) [(0, _), (1, _), (2, _), (3, _), (4, _)] rfl ?_
        refine go_goto 3 28 rfl (by decide) ?_
        cases h
        have g9 := ih _ hc
        exact g9
set_option maxRecDepth 20000 in
theorem e_A_join {l : Launch} {a0 : Nat} {a1 : Int32} {a2 : Int32} {a3 : Int32} {M : Mm} {r : Mm} (h0 : a0 < 7) (h : m_A_join a0 a1 a2 a3 M = some r) : Ev l X_A_join [vr 0 a0, vi a1, vi a2, vi a3] M (fun v M2 => v = none ∧ M2 = r) := by
  refine Ev.of mk_A_join [(0, vr 0 a0), (1, vi a1), (2, vi a2), (3, vi a3)] (fun _ => rfl) (fun _ => (Nat.le_of_ble_eq_true rfl)) ?_
  unfold m_A_join at h
  refine go_iconst 0 0 rfl (by decide) ?_
  refine go_istore 1 rfl (Nat.le_of_ble_eq_true rfl) [(0, _), (1, _), (2, _), (3, _), (4, _)] rfl ?_
  obtain ⟨r2, c, h⟩ := bd_inv h
  refine w_A_join_3 _ _ _ _ (by omega) ?_ _ _ c
  cases h
  exact go_return 29 rfl rfl ⟨rfl, rfl⟩
def X_A_copy : MX := (⟨"OmegaDesk$Automaton", "copy", "(LOmegaDesk$Automaton;)V"⟩, prog_2_method_9_code, 2, none, { frames := 1, cells := 0, slots := 0, locals := 40 },
  [(0, .aload_n 0, 1), (1, .aload_n 1, 2), (2, .getfield 9, 5), (5, .putfield 9, 8), (8, .aload_n 0, 9), (9, .aload_n 1, 10), (10, .getfield 15, 13), (13, .putfield 15, 16), (16, .aload_n 1, 17), (17, .getfield 18, 20), (20, .iconst 0, 21), (21, .aload_n 0, 22), (22, .getfield 18, 25), (25, .iconst 0, 26), (26, .bipush 32, 28), (28, .invokestatic 32, 31), (31, .return_, 32)])
set_option maxRecDepth 20000 in
theorem mk_A_copy : Mk X_A_copy := ⟨by unfold TBk; decide +kernel, by decide +kernel, wb_311, ⟨by decide, by decide⟩, rfl, rfl, wb_2⟩
theorem ac_A_32 : ACo "OmegaDesk$Automaton" 32 := ⟨wb_312, wb_314, wb_313, wb_13⟩
def m_A_copy (a0 : Nat) (a1 : Nat) (M : Mm) : Option (Mm) :=
  bd (some (uI M (0, a0) 0 (M.1 (0, a1) 0))) fun M1 =>
  bd (some (uI M1 (0, a0) 1 (M1.1 (0, a1) 1))) fun M2 =>
  bd (some (uC M2 a1 a0)) fun M3 =>
  some M3
set_option maxRecDepth 20000 in
theorem e_A_copy {l : Launch} {a0 : Nat} {a1 : Nat} {M : Mm} {r : Mm} (h0 : a0 < 7) (h1 : a1 < 7) (h : m_A_copy a0 a1 M = some r) : Ev l X_A_copy [vr 0 a0, vr 0 a1] M (fun v M2 => v = none ∧ M2 = r) := by
  refine Ev.of mk_A_copy [(0, vr 0 a0), (1, vr 0 a1)] (fun _ => rfl) (fun _ => (Nat.le_of_ble_eq_true rfl)) ?_
  unfold m_A_copy at h
  refine go_aload_n 0 rfl 0 rfl rfl ?_
  refine go_aload_n 1 rfl 1 rfl rfl ?_
  refine go_getfield 0 _ 2 rfl (by first | decide | exact ok0 (by omega) | exact ok1 (by omega) | exact ok2 (by omega) | exact ok7 (by omega)) rfl fg_A_9 rfl ?_
  refine go_putfield 0 .int 3 rfl (by first | decide | exact ok0 (by omega) | exact ok1 (by omega) | exact ok2 (by omega) | exact ok7 (by omega)) rfl fp_A_9 rfl rfl (Nat.le_of_ble_eq_true rfl) rfl ?_
  obtain ⟨_, c, h⟩ := bd_inv h
  cases c
  refine go_aload_n 4 rfl 0 rfl rfl ?_
  refine go_aload_n 5 rfl 1 rfl rfl ?_
  refine go_getfield 1 _ 6 rfl (by first | decide | exact ok0 (by omega) | exact ok1 (by omega) | exact ok2 (by omega) | exact ok7 (by omega)) rfl fg_A_15 rfl ?_
  refine go_putfield 1 .int 7 rfl (by first | decide | exact ok0 (by omega) | exact ok1 (by omega) | exact ok2 (by omega) | exact ok7 (by omega)) rfl fp_A_15 rfl rfl (Nat.le_of_ble_eq_true rfl) rfl ?_
  obtain ⟨_, c, h⟩ := bd_inv h
  cases c
  refine go_aload_n 8 rfl 1 rfl rfl ?_
  refine go_getfield 2 _ 9 rfl (by first | decide | exact ok0 (by omega) | exact ok1 (by omega) | exact ok2 (by omega) | exact ok7 (by omega)) rfl fg_A_18 rfl ?_
  refine go_iconst 0 10 rfl (by decide) ?_
  refine go_aload_n 11 rfl 0 rfl rfl ?_
  refine go_getfield 2 _ 12 rfl (by first | decide | exact ok0 (by omega) | exact ok1 (by omega) | exact ok2 (by omega) | exact ok7 (by omega)) rfl fg_A_18 rfl ?_
  refine go_iconst 0 13 rfl (by decide) ?_
  refine go_bipush 32 14 rfl (by decide) ?_
  refine go_arraycopy 15 rfl ac_A_32 (by omega) (by omega) (by decide) (by decide) ?_
  obtain ⟨_, c, h⟩ := bd_inv h
  cases c
  cases h
  exact go_return 16 rfl rfl ⟨rfl, rfl⟩
def X_A_joinAll : MX := (⟨"OmegaDesk$Automaton", "joinAll", "(III)V"⟩, prog_2_method_11_code, 5, none, { frames := 1, cells := 0, slots := 0, locals := 24 },
  [(0, .iconst 0, 1), (1, .istore 4, 3), (3, .iload 4, 5), (5, .aload_n 0, 6), (6, .getfield 9, 9), (9, .if_icmp .ge 26, 12), (12, .iload_n 3, 13), (13, .iload 4, 15), (15, .ishr, 16), (16, .iconst 1, 17), (17, .iand, 18), (18, .ifCond .eq 11, 21), (21, .aload_n 0, 22), (22, .iload_n 1, 23), (23, .iload_n 2, 24), (24, .iload 4, 26), (26, .invokevirtual 50, 29), (29, .iinc 4 1, 32), (32, .goto (-29), 35), (35, .return_, 36)])
set_option maxRecDepth 20000 in
theorem mk_A_joinAll : Mk X_A_joinAll := ⟨by unfold TBk; decide +kernel, by decide +kernel, wb_299, ⟨by decide, by decide⟩, rfl, rfl, wb_2⟩
theorem cv_A_50 : CV "OmegaDesk$Automaton" 50 X_A_join 3 0 := ⟨Or.inl wb_300, ⟨wb_261, wb_262⟩, by decide +kernel, F_A, 3, rfl⟩
def b_A_joinAll_3 (c0 : Nat) (c1 : Int32) (c2 : Int32) (c3 : Int32) (s : Int32 × Mm) : Option ((Int32 × Mm) ⊕ (Int32 × Mm)) :=
  if (s.2.1 (0, c0) 0) ≤ s.1 then
    some (Sum.inr (s.1, s.2))
  else
    if ((c3 >>> (s.1 &&& 31)) &&& (1 : Int32)) = 0 then
      some (Sum.inl ((s.1 + 1), s.2))
    else
      bd (m_A_join c0 c1 c2 s.1 s.2) fun r1 =>
      some (Sum.inl ((s.1 + 1), r1))
def m_A_joinAll (a0 : Nat) (a1 : Int32) (a2 : Int32) (a3 : Int32) (M : Mm) : Option (Mm) :=
  bd (lp (b_A_joinAll_3 a0 a1 a2 a3) ((0 : Int32), M)) fun r2 =>
  some r2.2
set_option maxRecDepth 20000 in
theorem w_A_joinAll_3 {l : Launch} {post : Option PV → Mm → Prop} (c0 : Nat) (c1 : Int32) (c2 : Int32) (c3 : Int32) (h0 : c0 < 7) {r : Int32 × Mm} (kk : Go l X_A_joinAll post 35 [(0, vr 0 c0), (1, vi c1), (2, vi c2), (3, vi c3), (4, vi r.1)] [] r.2) : ∀ (n : Nat) (s : Int32 × Mm), lpN (b_A_joinAll_3 c0 c1 c2 c3) n s = some r → Go l X_A_joinAll post 3 [(0, vr 0 c0), (1, vi c1), (2, vi c2), (3, vi c3), (4, vi s.1)] [] s.2 := by
  intro n
  induction n with
  | zero => intro s hc; exact (lpN_0 hc).elim
  | succ n ih =>
    intro s hc
    obtain ⟨q, h, hc⟩ := lpN_inv hc
    unfold b_A_joinAll_3 at h
    refine go_iload 2 rfl 4 rfl ?_
    refine go_aload_n 3 rfl 0 rfl rfl ?_
    refine go_getfield 0 _ 4 rfl (by first | decide | exact ok0 (by omega) | exact ok1 (by omega) | exact ok2 (by omega) | exact ok7 (by omega)) rfl fg_A_9 rfl ?_
    refine go_icmp_ge 35 5 rfl (by decide) (fun c => ?_) (fun c => ?_)
    · replace h := ite_t c h
      cases h
      obtain rfl := lpq_r hc
      exact kk
    · replace h := ite_f c h
      refine go_iload_n 6 rfl 3 rfl rfl ?_
      refine go_iload 7 rfl 4 rfl ?_
      refine go_ishr 8 rfl ?_
      refine go_iconst 1 9 rfl (by decide) ?_
      refine go_iand 10 rfl ?_
      refine go_if_eq 29 11 rfl (by decide) (fun c => ?_) (fun c => ?_)
      · replace h := ite_t c h
        refine go_iinc 1 17 rfl 4 rfl (by decide) (Nat.le_of_ble_eq_true rfl) [(0, _), (1, _), (2, _), (3, _), (4, _)] rfl ?_
        refine go_goto 3 18 rfl (by decide) ?_
        cases h
        have g9 := ih _ hc
        exact g9
      · replace h := ite_f c h
        refine go_aload_n 12 rfl 0 rfl rfl ?_
        refine go_iload_n 13 rfl 1 rfl rfl ?_
        refine go_iload_n 14 rfl 2 rfl rfl ?_
        refine go_iload 15 rfl 4 rfl ?_
        obtain ⟨r1, c, h⟩ := bd_inv h
        refine go_callV1 _ 16 rfl (e_A_join (by omega) c) mk_A_join (by first | decide | exact ok0 (by omega) | exact ok1 (by omega) | exact ok2 (by omega) | exact ok7 (by omega)) rfl cv_A_50 rfl ⟨(Nat.le_of_ble_eq_true rfl), (Nat.le_of_ble_eq_true rfl)⟩ (Nat.le_of_ble_eq_true rfl) rfl ?_
        refine go_iinc 1 17 rfl 4 rfl (by decide) (Nat.le_of_ble_eq_true rfl) [(0, _), (1, _), (2, _), (3, _), (4, _)] rfl ?_
        refine go_goto 3 18 rfl (by decide) ?_
        cases h
        have g9 := ih _ hc
        exact g9
set_option maxRecDepth 20000 in
theorem e_A_joinAll {l : Launch} {a0 : Nat} {a1 : Int32} {a2 : Int32} {a3 : Int32} {M : Mm} {r : Mm} (h0 : a0 < 7) (h : m_A_joinAll a0 a1 a2 a3 M = some r) : Ev l X_A_joinAll [vr 0 a0, vi a1, vi a2, vi a3] M (fun v M2 => v = none ∧ M2 = r) := by
  refine Ev.of mk_A_joinAll [(0, vr 0 a0), (1, vi a1), (2, vi a2), (3, vi a3)] (fun _ => rfl) (fun _ => (Nat.le_of_ble_eq_true rfl)) ?_
  unfold m_A_joinAll at h
  refine go_iconst 0 0 rfl (by decide) ?_
  refine go_istore 1 rfl (Nat.le_of_ble_eq_true rfl) [(0, _), (1, _), (2, _), (3, _), (4, _)] rfl ?_
  obtain ⟨r2, c, h⟩ := bd_inv h
  refine w_A_joinAll_3 _ _ _ _ (by omega) ?_ _ _ c
  cases h
  exact go_return 19 rfl rfl ⟨rfl, rfl⟩
def X_A_append : MX := (⟨"OmegaDesk$Automaton", "append", "(LOmegaDesk$Automaton;)V"⟩, prog_2_method_10_code, 6, none, { frames := 2, cells := 0, slots := 0, locals := 48 },
  [(0, .aload_n 0, 1), (1, .getfield 9, 4), (4, .istore_n 2, 5), (5, .iconst 0, 6), (6, .istore_n 3, 7), (7, .iload_n 3, 8), (8, .aload_n 1, 9), (9, .getfield 9, 12), (12, .if_icmp .ge 19, 15), (15, .aload_n 0, 16), (16, .aload_n 1, 17), (17, .iload_n 3, 18), (18, .invokevirtual 38, 21), (21, .invokevirtual 42, 24), (24, .pop, 25), (25, .iinc 3 1, 28), (28, .goto (-21), 31), (31, .iconst 0, 32), (32, .istore_n 3, 33), (33, .iload_n 3, 34), (34, .iconst 2, 35), (35, .if_icmp .ge 64, 38), (38, .iconst 0, 39), (39, .istore 4, 41), (41, .iload 4, 43), (43, .aload_n 1, 44), (44, .getfield 9, 47), (47, .if_icmp .ge 46, 50), (50, .aload_n 1, 51), (51, .iconst 1, 52), (52, .iload 4, 54), (54, .ishl, 55), (55, .iload_n 3, 56), (56, .invokevirtual 22, 59), (59, .iload_n 2, 60), (60, .ishl, 61), (61, .istore 5, 63), (63, .aload_n 0, 64), (64, .iload_n 2, 65), (65, .iload 4, 67), (67, .iadd, 68), (68, .iload_n 3, 69), (69, .iload 5, 71), (71, .invokevirtual 46, 74), (74, .iload 4, 76), (76, .ifCond .ne 11, 79), (79, .aload_n 0, 80), (80, .iconst 0, 81), (81, .iload_n 3, 82), (82, .iload 5, 84), (84, .invokevirtual 46, 87), (87, .iinc 4 1, 90), (90, .goto (-49), 93), (93, .iinc 3 1, 96), (96, .goto (-63), 99), (99, .return_, 100)])
set_option maxRecDepth 20000 in
theorem mk_A_append : Mk X_A_append := ⟨by unfold TBk; decide +kernel, by decide +kernel, wb_290, ⟨by decide, by decide⟩, rfl, rfl, wb_2⟩
theorem cv_A_38 : CV "OmegaDesk$Automaton" 38 X_A_isGood 1 0 := ⟨Or.inl wb_291, ⟨wb_292, wb_293⟩, by decide +kernel, F_A, 3, rfl⟩
theorem cv_A_42 : CV "OmegaDesk$Automaton" 42 X_A_addState 1 0 := ⟨Or.inl wb_295, ⟨wb_232, wb_233⟩, by decide +kernel, F_A, 3, rfl⟩
theorem cv_A_46 : CV "OmegaDesk$Automaton" 46 X_A_joinAll 3 0 := ⟨Or.inl wb_296, ⟨wb_298, ws_A_joinAll⟩, by decide +kernel, F_A, 3, rfl⟩
def b_A_append_7 (c0 : Nat) (c1 : Nat) (s : Int32 × Mm) : Option ((Int32 × Mm) ⊕ (Int32 × Mm)) :=
  if (s.2.1 (0, c1) 0) ≤ s.1 then
    some (Sum.inr (s.1, s.2))
  else
    bd (m_A_isGood c1 s.1 s.2) fun r1 =>
    bd (m_A_addState c0 r1 s.2) fun r2 =>
    some (Sum.inl ((s.1 + 1), r2.2))
def b_A_append_41 (c0 : Nat) (c1 : Nat) (c2 : Int32) (c3 : Int32) (s : Int32 × Mm) : Option ((Int32 × Mm) ⊕ (Int32 × Mm)) :=
  if (s.2.1 (0, c1) 0) ≤ s.1 then
    some (Sum.inr (s.1, s.2))
  else
    bd (m_A_followersOf c1 ((1 : Int32) <<< (s.1 &&& 31)) c3 s.2) fun r4 =>
    bd (m_A_joinAll c0 (c2 + s.1) c3 (r4 <<< (c2 &&& 31)) s.2) fun r5 =>
    if s.1 = 0 then
      bd (m_A_joinAll c0 (0 : Int32) c3 (r4 <<< (c2 &&& 31)) r5) fun r6 =>
      some (Sum.inl ((s.1 + 1), r6))
    else
      some (Sum.inl ((s.1 + 1), r5))
def b_A_append_33 (c0 : Nat) (c1 : Nat) (c2 : Int32) (s : Int32 × Mm) : Option ((Int32 × Mm) ⊕ (Int32 × Mm)) :=
  if (2 : Int32) ≤ s.1 then
    some (Sum.inr (s.1, s.2))
  else
    bd (lp (b_A_append_41 c0 c1 c2 s.1) ((0 : Int32), s.2)) fun r7 =>
    some (Sum.inl ((s.1 + 1), r7.2))
def m_A_append (a0 : Nat) (a1 : Nat) (M : Mm) : Option (Mm) :=
  bd (lp (b_A_append_7 a0 a1) ((0 : Int32), M)) fun r3 =>
  bd (lp (b_A_append_33 a0 a1 (M.1 (0, a0) 0)) ((0 : Int32), r3.2)) fun r8 =>
  some r8.2
set_option maxRecDepth 20000 in
theorem w_A_append_7 {l : Launch} {post : Option PV → Mm → Prop} (c0 : Nat) (c1 : Nat) (c2 : Int32) (h0 : c0 < 7) (h1 : c1 < 7) {r : Int32 × Mm} (kk : Go l X_A_append post 31 [(0, vr 0 c0), (1, vr 0 c1), (2, vi c2), (3, vi r.1)] [] r.2) : ∀ (n : Nat) (s : Int32 × Mm), lpN (b_A_append_7 c0 c1) n s = some r → Go l X_A_append post 7 [(0, vr 0 c0), (1, vr 0 c1), (2, vi c2), (3, vi s.1)] [] s.2 := by
  intro n
  induction n with
  | zero => intro s hc; exact (lpN_0 hc).elim
  | succ n ih =>
    intro s hc
    obtain ⟨q, h, hc⟩ := lpN_inv hc
    unfold b_A_append_7 at h
    refine go_iload_n 5 rfl 3 rfl rfl ?_
    refine go_aload_n 6 rfl 1 rfl rfl ?_
    refine go_getfield 0 _ 7 rfl (by first | decide | exact ok0 (by omega) | exact ok1 (by omega) | exact ok2 (by omega) | exact ok7 (by omega)) rfl fg_A_9 rfl ?_
    refine go_icmp_ge 31 8 rfl (by decide) (fun c => ?_) (fun c => ?_)
    · replace h := ite_t c h
      cases h
      obtain rfl := lpq_r hc
      exact kk
    · replace h := ite_f c h
      refine go_aload_n 9 rfl 0 rfl rfl ?_
      refine go_aload_n 10 rfl 1 rfl rfl ?_
      refine go_iload_n 11 rfl 3 rfl rfl ?_
      obtain ⟨r1, c, h⟩ := bd_inv h
      refine go_callV1 _ 12 rfl (e_A_isGood (by omega) c) mk_A_isGood (by first | decide | exact ok0 (by omega) | exact ok1 (by omega) | exact ok2 (by omega) | exact ok7 (by omega)) rfl cv_A_38 rfl ⟨(Nat.le_of_ble_eq_true rfl), (Nat.le_of_ble_eq_true rfl)⟩ (Nat.le_of_ble_eq_true rfl) rfl ?_
      obtain ⟨r2, c, h⟩ := bd_inv h
      refine go_callV1 _ 13 rfl (e_A_addState (by omega) c) mk_A_addState (by first | decide | exact ok0 (by omega) | exact ok1 (by omega) | exact ok2 (by omega) | exact ok7 (by omega)) rfl cv_A_42 rfl ⟨(Nat.le_of_ble_eq_true rfl), (Nat.le_of_ble_eq_true rfl)⟩ (Nat.le_of_ble_eq_true rfl) rfl ?_
      refine go_pop 14 rfl rfl ?_
      refine go_iinc 1 15 rfl 3 rfl (by decide) (Nat.le_of_ble_eq_true rfl) [(0, _), (1, _), (2, _), (3, _)] rfl ?_
      refine go_goto 7 16 rfl (by decide) ?_
      cases h
      have g9 := ih _ hc
      exact g9
set_option maxRecDepth 20000 in
theorem w_A_append_41 {l : Launch} {post : Option PV → Mm → Prop} (c0 : Nat) (c1 : Nat) (c2 : Int32) (c3 : Int32) (h0 : c0 < 7) (h1 : c1 < 7) {r : Int32 × Mm} (kk : Go l X_A_append post 93 [(0, vr 0 c0), (1, vr 0 c1), (2, vi c2), (3, vi c3), (4, vi r.1)] [] r.2) : ∀ (n : Nat) (s : Int32 × Mm), lpN (b_A_append_41 c0 c1 c2 c3) n s = some r → Go l X_A_append post 41 [(0, vr 0 c0), (1, vr 0 c1), (2, vi c2), (3, vi c3), (4, vi s.1)] [] s.2 := by
  intro n
  induction n with
  | zero => intro s hc; exact (lpN_0 hc).elim
  | succ n ih =>
    intro s hc
    obtain ⟨q, h, hc⟩ := lpN_inv hc
    unfold b_A_append_41 at h
    refine go_iload 24 rfl 4 rfl ?_
    refine go_aload_n 25 rfl 1 rfl rfl ?_
    refine go_getfield 0 _ 26 rfl (by first | decide | exact ok0 (by omega) | exact ok1 (by omega) | exact ok2 (by omega) | exact ok7 (by omega)) rfl fg_A_9 rfl ?_
    refine go_icmp_ge 93 27 rfl (by decide) (fun c => ?_) (fun c => ?_)
    · replace h := ite_t c h
      cases h
      obtain rfl := lpq_r hc
      exact kk
    · replace h := ite_f c h
      refine go_aload_n 28 rfl 1 rfl rfl ?_
      refine go_iconst 1 29 rfl (by decide) ?_
      refine go_iload 30 rfl 4 rfl ?_
      refine go_ishl 31 rfl ?_
      refine go_iload_n 32 rfl 3 rfl rfl ?_
      obtain ⟨r4, c, h⟩ := bd_inv h
      refine go_callV1 _ 33 rfl (e_A_followersOf (by omega) c) mk_A_followersOf (by first | decide | exact ok0 (by omega) | exact ok1 (by omega) | exact ok2 (by omega) | exact ok7 (by omega)) rfl cv_A_22 rfl ⟨(Nat.le_of_ble_eq_true rfl), (Nat.le_of_ble_eq_true rfl)⟩ (Nat.le_of_ble_eq_true rfl) rfl ?_
      refine go_iload_n 34 rfl 2 rfl rfl ?_
      refine go_ishl 35 rfl ?_
      refine go_istore 36 rfl (Nat.le_of_ble_eq_true rfl) [(0, _), (1, _), (2, _), (3, _), (4, _), (5, _)] rfl ?_
      refine go_aload_n 37 rfl 0 rfl rfl ?_
      refine go_iload_n 38 rfl 2 rfl rfl ?_
      refine go_iload 39 rfl 4 rfl ?_
      refine go_iadd 40 rfl ?_
      refine go_iload_n 41 rfl 3 rfl rfl ?_
      refine go_iload 42 rfl 5 rfl ?_
      obtain ⟨r5, c, h⟩ := bd_inv h
      refine go_callV1 _ 43 rfl (e_A_joinAll (by omega) c) mk_A_joinAll (by first | decide | exact ok0 (by omega) | exact ok1 (by omega) | exact ok2 (by omega) | exact ok7 (by omega)) rfl cv_A_46 rfl ⟨(Nat.le_of_ble_eq_true rfl), (Nat.le_of_ble_eq_true rfl)⟩ (Nat.le_of_ble_eq_true rfl) rfl ?_
      refine go_iload 44 rfl 4 rfl ?_
      refine go_if_ne 87 45 rfl (by decide) (fun c => ?_) (fun c => ?_)
      · replace h := ite_f c h
        refine go_iinc 1 51 rfl 4 rfl (by decide) (Nat.le_of_ble_eq_true rfl) [(0, _), (1, _), (2, _), (3, _), (4, _), (5, _)] rfl ?_
        refine go_goto 41 52 rfl (by decide) ?_
        cases h
        refine go_sub [0, 1, 2, 3, 4] rfl ?_
        have g9 := ih _ hc
        exact g9
      · replace h := ite_t c h
        refine go_aload_n 46 rfl 0 rfl rfl ?_
        refine go_iconst 0 47 rfl (by decide) ?_
        refine go_iload_n 48 rfl 3 rfl rfl ?_
        refine go_iload 49 rfl 5 rfl ?_
        obtain ⟨r6, c, h⟩ := bd_inv h
        refine go_callV1 _ 50 rfl (e_A_joinAll (by omega) c) mk_A_joinAll (by first | decide | exact ok0 (by omega) | exact ok1 (by omega) | exact ok2 (by omega) | exact ok7 (by omega)) rfl cv_A_46 rfl ⟨(Nat.le_of_ble_eq_true rfl), (Nat.le_of_ble_eq_true rfl)⟩ (Nat.le_of_ble_eq_true rfl) rfl ?_
        refine go_iinc 1 51 rfl 4 rfl (by decide) (Nat.le_of_ble_eq_true rfl) [(0, _), (1, _), (2, _), (3, _), (4, _), (5, _)] rfl ?_
        refine go_goto 41 52 rfl (by decide) ?_
        cases h
        refine go_sub [0, 1, 2, 3, 4] rfl ?_
        have g9 := ih _ hc
        exact g9
set_option maxRecDepth 20000 in
theorem w_A_append_33 {l : Launch} {post : Option PV → Mm → Prop} (c0 : Nat) (c1 : Nat) (c2 : Int32) (h0 : c0 < 7) (h1 : c1 < 7) {r : Int32 × Mm} (kk : Go l X_A_append post 99 [(0, vr 0 c0), (1, vr 0 c1), (2, vi c2), (3, vi r.1)] [] r.2) : ∀ (n : Nat) (s : Int32 × Mm), lpN (b_A_append_33 c0 c1 c2) n s = some r → Go l X_A_append post 33 [(0, vr 0 c0), (1, vr 0 c1), (2, vi c2), (3, vi s.1)] [] s.2 := by
  intro n
  induction n with
  | zero => intro s hc; exact (lpN_0 hc).elim
  | succ n ih =>
    intro s hc
    obtain ⟨q, h, hc⟩ := lpN_inv hc
    unfold b_A_append_33 at h
    refine go_iload_n 19 rfl 3 rfl rfl ?_
    refine go_iconst 2 20 rfl (by decide) ?_
    refine go_icmp_ge 99 21 rfl (by decide) (fun c => ?_) (fun c => ?_)
    · replace h := ite_t c h
      cases h
      obtain rfl := lpq_r hc
      exact kk
    · replace h := ite_f c h
      refine go_iconst 0 22 rfl (by decide) ?_
      refine go_istore 23 rfl (Nat.le_of_ble_eq_true rfl) [(0, _), (1, _), (2, _), (3, _), (4, _)] rfl ?_
      obtain ⟨r7, c, h⟩ := bd_inv h
      refine w_A_append_41 _ _ _ _ (by omega) (by omega) ?_ _ _ c
      refine go_iinc 1 53 rfl 3 rfl (by decide) (Nat.le_of_ble_eq_true rfl) [(0, _), (1, _), (2, _), (3, _), (4, _)] rfl ?_
      refine go_goto 33 54 rfl (by decide) ?_
      cases h
      refine go_sub [0, 1, 2, 3] rfl ?_
      have g9 := ih _ hc
      exact g9
set_option maxRecDepth 20000 in
theorem e_A_append {l : Launch} {a0 : Nat} {a1 : Nat} {M : Mm} {r : Mm} (h0 : a0 < 7) (h1 : a1 < 7) (h : m_A_append a0 a1 M = some r) : Ev l X_A_append [vr 0 a0, vr 0 a1] M (fun v M2 => v = none ∧ M2 = r) := by
  refine Ev.of mk_A_append [(0, vr 0 a0), (1, vr 0 a1)] (fun _ => rfl) (fun _ => (Nat.le_of_ble_eq_true rfl)) ?_
  unfold m_A_append at h
  refine go_aload_n 0 rfl 0 rfl rfl ?_
  refine go_getfield 0 _ 1 rfl (by first | decide | exact ok0 (by omega) | exact ok1 (by omega) | exact ok2 (by omega) | exact ok7 (by omega)) rfl fg_A_9 rfl ?_
  refine go_istore_n 2 rfl rfl (Nat.le_of_ble_eq_true rfl) [(0, _), (1, _), (2, _)] rfl ?_
  refine go_iconst 0 3 rfl (by decide) ?_
  refine go_istore_n 4 rfl rfl (Nat.le_of_ble_eq_true rfl) [(0, _), (1, _), (2, _), (3, _)] rfl ?_
  obtain ⟨r3, c, h⟩ := bd_inv h
  refine w_A_append_7 _ _ _ (by omega) (by omega) ?_ _ _ c
  refine go_iconst 0 17 rfl (by decide) ?_
  refine go_istore_n 18 rfl rfl (Nat.le_of_ble_eq_true rfl) [(0, _), (1, _), (2, _), (3, _)] rfl ?_
  obtain ⟨r8, c, h⟩ := bd_inv h
  refine w_A_append_33 _ _ _ (by omega) (by omega) ?_ _ _ c
  cases h
  exact go_return 55 rfl rfl ⟨rfl, rfl⟩
def X_A_placeAmong : MX := (⟨"OmegaDesk$Automaton", "placeAmong", "(II)I"⟩, prog_2_method_14_code, 2, some .int, { frames := 1, cells := 0, slots := 0, locals := 20 },
  [(0, .iload_n 0, 1), (1, .iconst 1, 2), (2, .iload_n 1, 3), (3, .ishl, 4), (4, .iconst 1, 5), (5, .isub, 6), (6, .iand, 7), (7, .invokestatic 62, 10), (10, .ireturn, 11)])
set_option maxRecDepth 20000 in
theorem mk_A_placeAmong : Mk X_A_placeAmong := ⟨by unfold TBk; decide +kernel, by decide +kernel, wb_356, ⟨by decide, by decide⟩, rfl, rfl, wb_2⟩
theorem cs_A_62 : CS "OmegaDesk$Automaton" 62 X_I_bitCount 1 := ⟨Or.inl wb_357, wb_358, by decide +kernel⟩
def m_A_placeAmong (a0 : Int32) (a1 : Int32) : Option (Int32) :=
  bd (m_I_bitCount (a0 &&& (((1 : Int32) <<< (a1 &&& 31)) - (1 : Int32)))) fun r1 =>
  some r1
set_option maxRecDepth 20000 in
theorem e_A_placeAmong {l : Launch} {a0 : Int32} {a1 : Int32} {M : Mm} {r : Int32}  (h : m_A_placeAmong a0 a1 = some r) : Ev l X_A_placeAmong [vi a0, vi a1] M (fun v M2 => v = (some (vi r)) ∧ M2 = M) := by
  refine Ev.of mk_A_placeAmong [(0, vi a0), (1, vi a1)] (fun _ => rfl) (fun _ => (Nat.le_of_ble_eq_true rfl)) ?_
  unfold m_A_placeAmong at h
  refine go_iload_n 0 rfl 0 rfl rfl ?_
  refine go_iconst 1 1 rfl (by decide) ?_
  refine go_iload_n 2 rfl 1 rfl rfl ?_
  refine go_ishl 3 rfl ?_
  refine go_iconst 1 4 rfl (by decide) ?_
  refine go_isub 5 rfl ?_
  refine go_iand 6 rfl ?_
  obtain ⟨r1, c, h⟩ := bd_inv h
  refine go_callS1 _ 7 rfl (e_I_bitCount c) mk_I_bitCount cs_A_62 rfl ⟨(Nat.le_of_ble_eq_true rfl), (Nat.le_of_ble_eq_true rfl)⟩ (Nat.le_of_ble_eq_true rfl) rfl ?_
  cases h
  exact go_ireturn 8 rfl rfl rfl ⟨rfl, rfl⟩
def X_A_packed : MX := (⟨"OmegaDesk$Automaton", "packed", "(II)I"⟩, prog_2_method_13_code, 4, some .int, { frames := 2, cells := 0, slots := 0, locals := 41 },
  [(0, .iconst 0, 1), (1, .istore_n 2, 2), (2, .iconst 0, 3), (3, .istore_n 3, 4), (4, .iload_n 3, 5), (5, .iconst 4, 6), (6, .if_icmp .ge 27, 9), (9, .iload_n 0, 10), (10, .iload_n 3, 11), (11, .ishr, 12), (12, .iconst 1, 13), (13, .iand, 14), (14, .ifCond .eq 13, 17), (17, .iload_n 2, 18), (18, .iconst 1, 19), (19, .iload_n 1, 20), (20, .iload_n 3, 21), (21, .invokestatic 56, 24), (24, .ishl, 25), (25, .ior, 26), (26, .istore_n 2, 27), (27, .iinc 3 1, 30), (30, .goto (-26), 33), (33, .iload_n 2, 34), (34, .ireturn, 35)])
set_option maxRecDepth 20000 in
theorem mk_A_packed : Mk X_A_packed := ⟨by unfold TBk; decide +kernel, by decide +kernel, wb_365, ⟨by decide, by decide⟩, rfl, rfl, wb_2⟩
theorem cs_A_56 : CS "OmegaDesk$Automaton" 56 X_A_placeAmong 2 := ⟨Or.inl wb_354, wb_355, by decide +kernel⟩
def b_A_packed_4 (c0 : Int32) (c1 : Int32) (s : Int32 × Int32) : Option ((Int32 × Int32) ⊕ (Int32 × Int32)) :=
  if (4 : Int32) ≤ s.2 then
    some (Sum.inr (s.1, s.2))
  else
    if ((c0 >>> (s.2 &&& 31)) &&& (1 : Int32)) = 0 then
      some (Sum.inl (s.1, (s.2 + 1)))
    else
      bd (m_A_placeAmong c1 s.2) fun r1 =>
      some (Sum.inl ((s.1 ||| ((1 : Int32) <<< (r1 &&& 31))), (s.2 + 1)))
def m_A_packed (a0 : Int32) (a1 : Int32) : Option (Int32) :=
  bd (lp (b_A_packed_4 a0 a1) ((0 : Int32), (0 : Int32))) fun r2 =>
  some r2.1
set_option maxRecDepth 20000 in
theorem w_A_packed_4 {l : Launch} {post : Option PV → Mm → Prop} (c0 : Int32) (c1 : Int32) (M : Mm)  {r : Int32 × Int32} (kk : Go l X_A_packed post 33 [(0, vi c0), (1, vi c1), (2, vi r.1), (3, vi r.2)] [] M) : ∀ (n : Nat) (s : Int32 × Int32), lpN (b_A_packed_4 c0 c1) n s = some r → Go l X_A_packed post 4 [(0, vi c0), (1, vi c1), (2, vi s.1), (3, vi s.2)] [] M := by
  intro n
  induction n with
  | zero => intro s hc; exact (lpN_0 hc).elim
  | succ n ih =>
    intro s hc
    obtain ⟨q, h, hc⟩ := lpN_inv hc
    unfold b_A_packed_4 at h
    refine go_iload_n 4 rfl 3 rfl rfl ?_
    refine go_iconst 4 5 rfl (by decide) ?_
    refine go_icmp_ge 33 6 rfl (by decide) (fun c => ?_) (fun c => ?_)
    · replace h := ite_t c h
      cases h
      obtain rfl := lpq_r hc
      exact kk
    · replace h := ite_f c h
      refine go_iload_n 7 rfl 0 rfl rfl ?_
      refine go_iload_n 8 rfl 3 rfl rfl ?_
      refine go_ishr 9 rfl ?_
      refine go_iconst 1 10 rfl (by decide) ?_
      refine go_iand 11 rfl ?_
      refine go_if_eq 27 12 rfl (by decide) (fun c => ?_) (fun c => ?_)
      · replace h := ite_t c h
        refine go_iinc 1 21 rfl 3 rfl (by decide) (Nat.le_of_ble_eq_true rfl) [(0, _), (1, _), (2, _), (3, _)] rfl ?_
        refine go_goto 4 22 rfl (by decide) ?_
        cases h
        have g9 := ih _ hc
        exact g9
      · replace h := ite_f c h
        refine go_iload_n 13 rfl 2 rfl rfl ?_
        refine go_iconst 1 14 rfl (by decide) ?_
        refine go_iload_n 15 rfl 1 rfl rfl ?_
        refine go_iload_n 16 rfl 3 rfl rfl ?_
        obtain ⟨r1, c, h⟩ := bd_inv h
        refine go_callS1 _ 17 rfl (e_A_placeAmong c) mk_A_placeAmong cs_A_56 rfl ⟨(Nat.le_of_ble_eq_true rfl), (Nat.le_of_ble_eq_true rfl)⟩ (Nat.le_of_ble_eq_true rfl) rfl ?_
        refine go_ishl 18 rfl ?_
        refine go_ior 19 rfl ?_
        refine go_istore_n 20 rfl rfl (Nat.le_of_ble_eq_true rfl) [(0, _), (1, _), (2, _), (3, _)] rfl ?_
        refine go_iinc 1 21 rfl 3 rfl (by decide) (Nat.le_of_ble_eq_true rfl) [(0, _), (1, _), (2, _), (3, _)] rfl ?_
        refine go_goto 4 22 rfl (by decide) ?_
        cases h
        have g9 := ih _ hc
        exact g9
set_option maxRecDepth 20000 in
theorem e_A_packed {l : Launch} {a0 : Int32} {a1 : Int32} {M : Mm} {r : Int32}  (h : m_A_packed a0 a1 = some r) : Ev l X_A_packed [vi a0, vi a1] M (fun v M2 => v = (some (vi r)) ∧ M2 = M) := by
  refine Ev.of mk_A_packed [(0, vi a0), (1, vi a1)] (fun _ => rfl) (fun _ => (Nat.le_of_ble_eq_true rfl)) ?_
  unfold m_A_packed at h
  refine go_iconst 0 0 rfl (by decide) ?_
  refine go_istore_n 1 rfl rfl (Nat.le_of_ble_eq_true rfl) [(0, _), (1, _), (2, _)] rfl ?_
  refine go_iconst 0 2 rfl (by decide) ?_
  refine go_istore_n 3 rfl rfl (Nat.le_of_ble_eq_true rfl) [(0, _), (1, _), (2, _), (3, _)] rfl ?_
  obtain ⟨r2, c, h⟩ := bd_inv h
  refine w_A_packed_4 _ _ _ ?_ _ _ c
  refine go_iload_n 23 rfl 2 rfl rfl ?_
  cases h
  exact go_ireturn 24 rfl rfl rfl ⟨rfl, rfl⟩
def X_A_becomePart : MX := (⟨"OmegaDesk$Automaton", "becomePart", "(LOmegaDesk$Automaton;I)V"⟩, prog_2_method_12_code, 6, none, { frames := 3, cells := 0, slots := 0, locals := 64 },
  [(0, .aload_n 0, 1), (1, .invokevirtual 53, 4), (4, .iconst 0, 5), (5, .istore_n 3, 6), (6, .iload_n 3, 7), (7, .aload_n 1, 8), (8, .getfield 9, 11), (11, .if_icmp .ge 27, 14), (14, .iload_n 2, 15), (15, .iload_n 3, 16), (16, .ishr, 17), (17, .iconst 1, 18), (18, .iand, 19), (19, .ifCond .eq 13, 22), (22, .aload_n 0, 23), (23, .aload_n 1, 24), (24, .iload_n 3, 25), (25, .invokevirtual 38, 28), (28, .invokevirtual 42, 31), (31, .pop, 32), (32, .iinc 3 1, 35), (35, .goto (-29), 38), (38, .iconst 0, 39), (39, .istore_n 3, 40), (40, .iload_n 3, 41), (41, .iconst 2, 42), (42, .if_icmp .ge 66, 45), (45, .iconst 0, 46), (46, .istore 4, 48), (48, .iload 4, 50), (50, .aload_n 1, 51), (51, .getfield 9, 54), (54, .if_icmp .ge 48, 57), (57, .iload_n 2, 58), (58, .iload 4, 60), (60, .ishr, 61), (61, .iconst 1, 62), (62, .iand, 63), (63, .ifCond .eq 33, 66), (66, .aload_n 1, 67), (67, .iconst 1, 68), (68, .iload 4, 70), (70, .ishl, 71), (71, .iload_n 3, 72), (72, .invokevirtual 22, 75), (75, .iload_n 2, 76), (76, .iand, 77), (77, .istore 5, 79), (79, .aload_n 0, 80), (80, .iload_n 2, 81), (81, .iload 4, 83), (83, .invokestatic 56, 86), (86, .iload_n 3, 87), (87, .iload 5, 89), (89, .iload_n 2, 90), (90, .invokestatic 59, 93), (93, .invokevirtual 46, 96), (96, .iinc 4 1, 99), (99, .goto (-51), 102), (102, .iinc 3 1, 105), (105, .goto (-65), 108), (108, .return_, 109)])
set_option maxRecDepth 20000 in
theorem mk_A_becomePart : Mk X_A_becomePart := ⟨by unfold TBk; decide +kernel, by decide +kernel, wb_352, ⟨by decide, by decide⟩, rfl, rfl, wb_2⟩
theorem cv_A_53 : CV "OmegaDesk$Automaton" 53 X_A_wipe 0 0 := ⟨Or.inl wb_353, ⟨wb_272, wb_273⟩, by decide +kernel, F_A, 3, rfl⟩
theorem cs_A_59 : CS "OmegaDesk$Automaton" 59 X_A_packed 2 := ⟨Or.inl wb_363, wb_364, by decide +kernel⟩
def b_A_becomePart_6 (c0 : Nat) (c1 : Nat) (c2 : Int32) (s : Int32 × Mm) : Option ((Int32 × Mm) ⊕ (Int32 × Mm)) :=
  if (s.2.1 (0, c1) 0) ≤ s.1 then
    some (Sum.inr (s.1, s.2))
  else
    if ((c2 >>> (s.1 &&& 31)) &&& (1 : Int32)) = 0 then
      some (Sum.inl ((s.1 + 1), s.2))
    else
      bd (m_A_isGood c1 s.1 s.2) fun r2 =>
      bd (m_A_addState c0 r2 s.2) fun r3 =>
      some (Sum.inl ((s.1 + 1), r3.2))
def b_A_becomePart_48 (c0 : Nat) (c1 : Nat) (c2 : Int32) (c3 : Int32) (s : Int32 × Mm) : Option ((Int32 × Mm) ⊕ (Int32 × Mm)) :=
  if (s.2.1 (0, c1) 0) ≤ s.1 then
    some (Sum.inr (s.1, s.2))
  else
    if ((c2 >>> (s.1 &&& 31)) &&& (1 : Int32)) = 0 then
      some (Sum.inl ((s.1 + 1), s.2))
    else
      bd (m_A_followersOf c1 ((1 : Int32) <<< (s.1 &&& 31)) c3 s.2) fun r5 =>
      bd (m_A_placeAmong c2 s.1) fun r6 =>
      bd (m_A_packed (r5 &&& c2) c2) fun r7 =>
      bd (m_A_joinAll c0 r6 c3 r7 s.2) fun r8 =>
      some (Sum.inl ((s.1 + 1), r8))
def b_A_becomePart_40 (c0 : Nat) (c1 : Nat) (c2 : Int32) (s : Int32 × Mm) : Option ((Int32 × Mm) ⊕ (Int32 × Mm)) :=
  if (2 : Int32) ≤ s.1 then
    some (Sum.inr (s.1, s.2))
  else
    bd (lp (b_A_becomePart_48 c0 c1 c2 s.1) ((0 : Int32), s.2)) fun r9 =>
    some (Sum.inl ((s.1 + 1), r9.2))
def m_A_becomePart (a0 : Nat) (a1 : Nat) (a2 : Int32) (M : Mm) : Option (Mm) :=
  bd (m_A_wipe a0 M) fun r1 =>
  bd (lp (b_A_becomePart_6 a0 a1 a2) ((0 : Int32), r1)) fun r4 =>
  bd (lp (b_A_becomePart_40 a0 a1 a2) ((0 : Int32), r4.2)) fun r10 =>
  some r10.2
set_option maxRecDepth 20000 in
theorem w_A_becomePart_6 {l : Launch} {post : Option PV → Mm → Prop} (c0 : Nat) (c1 : Nat) (c2 : Int32) (h0 : c0 < 7) (h1 : c1 < 7) {r : Int32 × Mm} (kk : Go l X_A_becomePart post 38 [(0, vr 0 c0), (1, vr 0 c1), (2, vi c2), (3, vi r.1)] [] r.2) : ∀ (n : Nat) (s : Int32 × Mm), lpN (b_A_becomePart_6 c0 c1 c2) n s = some r → Go l X_A_becomePart post 6 [(0, vr 0 c0), (1, vr 0 c1), (2, vi c2), (3, vi s.1)] [] s.2 := by
  intro n
  induction n with
  | zero => intro s hc; exact (lpN_0 hc).elim
  | succ n ih =>
    intro s hc
    obtain ⟨q, h, hc⟩ := lpN_inv hc
    unfold b_A_becomePart_6 at h
    refine go_iload_n 4 rfl 3 rfl rfl ?_
    refine go_aload_n 5 rfl 1 rfl rfl ?_
    refine go_getfield 0 _ 6 rfl (by first | decide | exact ok0 (by omega) | exact ok1 (by omega) | exact ok2 (by omega) | exact ok7 (by omega)) rfl fg_A_9 rfl ?_
    refine go_icmp_ge 38 7 rfl (by decide) (fun c => ?_) (fun c => ?_)
    · replace h := ite_t c h
      cases h
      obtain rfl := lpq_r hc
      exact kk
    · replace h := ite_f c h
      refine go_iload_n 8 rfl 2 rfl rfl ?_
      refine go_iload_n 9 rfl 3 rfl rfl ?_
      refine go_ishr 10 rfl ?_
      refine go_iconst 1 11 rfl (by decide) ?_
      refine go_iand 12 rfl ?_
      refine go_if_eq 32 13 rfl (by decide) (fun c => ?_) (fun c => ?_)
      · replace h := ite_t c h
        refine go_iinc 1 20 rfl 3 rfl (by decide) (Nat.le_of_ble_eq_true rfl) [(0, _), (1, _), (2, _), (3, _)] rfl ?_
        refine go_goto 6 21 rfl (by decide) ?_
        cases h
        have g9 := ih _ hc
        exact g9
      · replace h := ite_f c h
        refine go_aload_n 14 rfl 0 rfl rfl ?_
        refine go_aload_n 15 rfl 1 rfl rfl ?_
        refine go_iload_n 16 rfl 3 rfl rfl ?_
        obtain ⟨r2, c, h⟩ := bd_inv h
        refine go_callV1 _ 17 rfl (e_A_isGood (by omega) c) mk_A_isGood (by first | decide | exact ok0 (by omega) | exact ok1 (by omega) | exact ok2 (by omega) | exact ok7 (by omega)) rfl cv_A_38 rfl ⟨(Nat.le_of_ble_eq_true rfl), (Nat.le_of_ble_eq_true rfl)⟩ (Nat.le_of_ble_eq_true rfl) rfl ?_
        obtain ⟨r3, c, h⟩ := bd_inv h
        refine go_callV1 _ 18 rfl (e_A_addState (by omega) c) mk_A_addState (by first | decide | exact ok0 (by omega) | exact ok1 (by omega) | exact ok2 (by omega) | exact ok7 (by omega)) rfl cv_A_42 rfl ⟨(Nat.le_of_ble_eq_true rfl), (Nat.le_of_ble_eq_true rfl)⟩ (Nat.le_of_ble_eq_true rfl) rfl ?_
        refine go_pop 19 rfl rfl ?_
        refine go_iinc 1 20 rfl 3 rfl (by decide) (Nat.le_of_ble_eq_true rfl) [(0, _), (1, _), (2, _), (3, _)] rfl ?_
        refine go_goto 6 21 rfl (by decide) ?_
        cases h
        have g9 := ih _ hc
        exact g9
set_option maxRecDepth 20000 in
theorem w_A_becomePart_48 {l : Launch} {post : Option PV → Mm → Prop} (c0 : Nat) (c1 : Nat) (c2 : Int32) (c3 : Int32) (h0 : c0 < 7) (h1 : c1 < 7) {r : Int32 × Mm} (kk : Go l X_A_becomePart post 102 [(0, vr 0 c0), (1, vr 0 c1), (2, vi c2), (3, vi c3), (4, vi r.1)] [] r.2) : ∀ (n : Nat) (s : Int32 × Mm), lpN (b_A_becomePart_48 c0 c1 c2 c3) n s = some r → Go l X_A_becomePart post 48 [(0, vr 0 c0), (1, vr 0 c1), (2, vi c2), (3, vi c3), (4, vi s.1)] [] s.2 := by
  intro n
  induction n with
  | zero => intro s hc; exact (lpN_0 hc).elim
  | succ n ih =>
    intro s hc
    obtain ⟨q, h, hc⟩ := lpN_inv hc
    unfold b_A_becomePart_48 at h
    refine go_iload 29 rfl 4 rfl ?_
    refine go_aload_n 30 rfl 1 rfl rfl ?_
    refine go_getfield 0 _ 31 rfl (by first | decide | exact ok0 (by omega) | exact ok1 (by omega) | exact ok2 (by omega) | exact ok7 (by omega)) rfl fg_A_9 rfl ?_
    refine go_icmp_ge 102 32 rfl (by decide) (fun c => ?_) (fun c => ?_)
    · replace h := ite_t c h
      cases h
      obtain rfl := lpq_r hc
      exact kk
    · replace h := ite_f c h
      refine go_iload_n 33 rfl 2 rfl rfl ?_
      refine go_iload 34 rfl 4 rfl ?_
      refine go_ishr 35 rfl ?_
      refine go_iconst 1 36 rfl (by decide) ?_
      refine go_iand 37 rfl ?_
      refine go_if_eq 96 38 rfl (by decide) (fun c => ?_) (fun c => ?_)
      · replace h := ite_t c h
        refine go_iinc 1 57 rfl 4 rfl (by decide) (Nat.le_of_ble_eq_true rfl) [(0, _), (1, _), (2, _), (3, _), (4, _)] rfl ?_
        refine go_goto 48 58 rfl (by decide) ?_
        cases h
        have g9 := ih _ hc
        exact g9
      · replace h := ite_f c h
        refine go_aload_n 39 rfl 1 rfl rfl ?_
        refine go_iconst 1 40 rfl (by decide) ?_
        refine go_iload 41 rfl 4 rfl ?_
        refine go_ishl 42 rfl ?_
        refine go_iload_n 43 rfl 3 rfl rfl ?_
        obtain ⟨r5, c, h⟩ := bd_inv h
        refine go_callV1 _ 44 rfl (e_A_followersOf (by omega) c) mk_A_followersOf (by first | decide | exact ok0 (by omega) | exact ok1 (by omega) | exact ok2 (by omega) | exact ok7 (by omega)) rfl cv_A_22 rfl ⟨(Nat.le_of_ble_eq_true rfl), (Nat.le_of_ble_eq_true rfl)⟩ (Nat.le_of_ble_eq_true rfl) rfl ?_
        refine go_iload_n 45 rfl 2 rfl rfl ?_
        refine go_iand 46 rfl ?_
        refine go_istore 47 rfl (Nat.le_of_ble_eq_true rfl) [(0, _), (1, _), (2, _), (3, _), (4, _), (5, _)] rfl ?_
        refine go_aload_n 48 rfl 0 rfl rfl ?_
        refine go_iload_n 49 rfl 2 rfl rfl ?_
        refine go_iload 50 rfl 4 rfl ?_
        obtain ⟨r6, c, h⟩ := bd_inv h
        refine go_callS1 _ 51 rfl (e_A_placeAmong c) mk_A_placeAmong cs_A_56 rfl ⟨(Nat.le_of_ble_eq_true rfl), (Nat.le_of_ble_eq_true rfl)⟩ (Nat.le_of_ble_eq_true rfl) rfl ?_
        refine go_iload_n 52 rfl 3 rfl rfl ?_
        refine go_iload 53 rfl 5 rfl ?_
        refine go_iload_n 54 rfl 2 rfl rfl ?_
        obtain ⟨r7, c, h⟩ := bd_inv h
        refine go_callS1 _ 55 rfl (e_A_packed c) mk_A_packed cs_A_59 rfl ⟨(Nat.le_of_ble_eq_true rfl), (Nat.le_of_ble_eq_true rfl)⟩ (Nat.le_of_ble_eq_true rfl) rfl ?_
        obtain ⟨r8, c, h⟩ := bd_inv h
        refine go_callV1 _ 56 rfl (e_A_joinAll (by omega) c) mk_A_joinAll (by first | decide | exact ok0 (by omega) | exact ok1 (by omega) | exact ok2 (by omega) | exact ok7 (by omega)) rfl cv_A_46 rfl ⟨(Nat.le_of_ble_eq_true rfl), (Nat.le_of_ble_eq_true rfl)⟩ (Nat.le_of_ble_eq_true rfl) rfl ?_
        refine go_iinc 1 57 rfl 4 rfl (by decide) (Nat.le_of_ble_eq_true rfl) [(0, _), (1, _), (2, _), (3, _), (4, _), (5, _)] rfl ?_
        refine go_goto 48 58 rfl (by decide) ?_
        cases h
        refine go_sub [0, 1, 2, 3, 4] rfl ?_
        have g9 := ih _ hc
        exact g9
set_option maxRecDepth 20000 in
theorem w_A_becomePart_40 {l : Launch} {post : Option PV → Mm → Prop} (c0 : Nat) (c1 : Nat) (c2 : Int32) (h0 : c0 < 7) (h1 : c1 < 7) {r : Int32 × Mm} (kk : Go l X_A_becomePart post 108 [(0, vr 0 c0), (1, vr 0 c1), (2, vi c2), (3, vi r.1)] [] r.2) : ∀ (n : Nat) (s : Int32 × Mm), lpN (b_A_becomePart_40 c0 c1 c2) n s = some r → Go l X_A_becomePart post 40 [(0, vr 0 c0), (1, vr 0 c1), (2, vi c2), (3, vi s.1)] [] s.2 := by
  intro n
  induction n with
  | zero => intro s hc; exact (lpN_0 hc).elim
  | succ n ih =>
    intro s hc
    obtain ⟨q, h, hc⟩ := lpN_inv hc
    unfold b_A_becomePart_40 at h
    refine go_iload_n 24 rfl 3 rfl rfl ?_
    refine go_iconst 2 25 rfl (by decide) ?_
    refine go_icmp_ge 108 26 rfl (by decide) (fun c => ?_) (fun c => ?_)
    · replace h := ite_t c h
      cases h
      obtain rfl := lpq_r hc
      exact kk
    · replace h := ite_f c h
      refine go_iconst 0 27 rfl (by decide) ?_
      refine go_istore 28 rfl (Nat.le_of_ble_eq_true rfl) [(0, _), (1, _), (2, _), (3, _), (4, _)] rfl ?_
      obtain ⟨r9, c, h⟩ := bd_inv h
      refine w_A_becomePart_48 _ _ _ _ (by omega) (by omega) ?_ _ _ c
      refine go_iinc 1 59 rfl 3 rfl (by decide) (Nat.le_of_ble_eq_true rfl) [(0, _), (1, _), (2, _), (3, _), (4, _)] rfl ?_
      refine go_goto 40 60 rfl (by decide) ?_
      cases h
      refine go_sub [0, 1, 2, 3] rfl ?_
      have g9 := ih _ hc
      exact g9
set_option maxRecDepth 20000 in
theorem e_A_becomePart {l : Launch} {a0 : Nat} {a1 : Nat} {a2 : Int32} {M : Mm} {r : Mm} (h0 : a0 < 7) (h1 : a1 < 7) (h : m_A_becomePart a0 a1 a2 M = some r) : Ev l X_A_becomePart [vr 0 a0, vr 0 a1, vi a2] M (fun v M2 => v = none ∧ M2 = r) := by
  refine Ev.of mk_A_becomePart [(0, vr 0 a0), (1, vr 0 a1), (2, vi a2)] (fun _ => rfl) (fun _ => (Nat.le_of_ble_eq_true rfl)) ?_
  unfold m_A_becomePart at h
  refine go_aload_n 0 rfl 0 rfl rfl ?_
  obtain ⟨r1, c, h⟩ := bd_inv h
  refine go_callV1 _ 1 rfl (e_A_wipe (by omega) c) mk_A_wipe (by first | decide | exact ok0 (by omega) | exact ok1 (by omega) | exact ok2 (by omega) | exact ok7 (by omega)) rfl cv_A_53 rfl ⟨(Nat.le_of_ble_eq_true rfl), (Nat.le_of_ble_eq_true rfl)⟩ (Nat.le_of_ble_eq_true rfl) rfl ?_
  refine go_iconst 0 2 rfl (by decide) ?_
  refine go_istore_n 3 rfl rfl (Nat.le_of_ble_eq_true rfl) [(0, _), (1, _), (2, _), (3, _)] rfl ?_
  obtain ⟨r4, c, h⟩ := bd_inv h
  refine w_A_becomePart_6 _ _ _ (by omega) (by omega) ?_ _ _ c
  refine go_iconst 0 22 rfl (by decide) ?_
  refine go_istore_n 23 rfl rfl (Nat.le_of_ble_eq_true rfl) [(0, _), (1, _), (2, _), (3, _)] rfl ?_
  obtain ⟨r10, c, h⟩ := bd_inv h
  refine w_A_becomePart_40 _ _ _ (by omega) (by omega) ?_ _ _ c
  cases h
  exact go_return 61 rfl rfl ⟨rfl, rfl⟩
def X_A_emptyPassage : MX := (⟨"OmegaDesk$Automaton", "emptyPassage", "(I)I"⟩, prog_2_method_16_code, 4, some .int, { frames := 0, cells := 0, slots := 0, locals := 0 },
  [(0, .iconst 0, 1), (1, .istore_n 2, 2), (2, .iconst 0, 3), (3, .istore_n 3, 4), (4, .iload_n 3, 5), (5, .aload_n 0, 6), (6, .getfield 9, 9), (9, .if_icmp .ge 24, 12), (12, .iload_n 2, 13), (13, .iload_n 1, 14), (14, .iload_n 3, 15), (15, .ishr, 16), (16, .iconst 1, 17), (17, .iand, 18), (18, .iload_n 3, 19), (19, .ishl, 20), (20, .bipush 8, 22), (22, .iload_n 3, 23), (23, .imul, 24), (24, .ishl, 25), (25, .ior, 26), (26, .istore_n 2, 27), (27, .iinc 3 1, 30), (30, .goto (-26), 33), (33, .iload_n 2, 34), (34, .ireturn, 35)])
set_option maxRecDepth 20000 in
theorem mk_A_emptyPassage : Mk X_A_emptyPassage := ⟨by unfold TBk; decide +kernel, by decide +kernel, wb_322, ⟨by decide, by decide⟩, rfl, rfl, wb_2⟩
def b_A_emptyPassage_4 (c0 : Nat) (c1 : Int32) (M : Mm) (s : Int32 × Int32) : Option ((Int32 × Int32) ⊕ (Int32 × Int32)) :=
  if (M.1 (0, c0) 0) ≤ s.2 then
    some (Sum.inr (s.1, s.2))
  else
    bd (some (s.1 ||| ((((c1 >>> (s.2 &&& 31)) &&& (1 : Int32)) <<< (s.2 &&& 31)) <<< (((8 : Int32) * s.2) &&& 31)))) fun x1 =>
    some (Sum.inl (x1, (s.2 + 1)))
def m_A_emptyPassage (a0 : Nat) (a1 : Int32) (M : Mm) : Option (Int32) :=
  bd (lp (b_A_emptyPassage_4 a0 a1 M) ((0 : Int32), (0 : Int32))) fun r2 =>
  some r2.1
set_option maxRecDepth 20000 in
theorem w_A_emptyPassage_4 {l : Launch} {post : Option PV → Mm → Prop} (c0 : Nat) (c1 : Int32) (M : Mm) (h0 : c0 < 7) {r : Int32 × Int32} (kk : Go l X_A_emptyPassage post 33 [(0, vr 0 c0), (1, vi c1), (2, vi r.1), (3, vi r.2)] [] M) : ∀ (n : Nat) (s : Int32 × Int32), lpN (b_A_emptyPassage_4 c0 c1 M) n s = some r → Go l X_A_emptyPassage post 4 [(0, vr 0 c0), (1, vi c1), (2, vi s.1), (3, vi s.2)] [] M := by
  intro n
  induction n with
  | zero => intro s hc; exact (lpN_0 hc).elim
  | succ n ih =>
    intro s hc
    obtain ⟨q, h, hc⟩ := lpN_inv hc
    unfold b_A_emptyPassage_4 at h
    refine go_iload_n 4 rfl 3 rfl rfl ?_
    refine go_aload_n 5 rfl 0 rfl rfl ?_
    refine go_getfield 0 _ 6 rfl (by first | decide | exact ok0 (by omega) | exact ok1 (by omega) | exact ok2 (by omega) | exact ok7 (by omega)) rfl fg_A_9 rfl ?_
    refine go_icmp_ge 33 7 rfl (by decide) (fun c => ?_) (fun c => ?_)
    · replace h := ite_t c h
      cases h
      obtain rfl := lpq_r hc
      exact kk
    · replace h := ite_f c h
      refine go_iload_n 8 rfl 2 rfl rfl ?_
      refine go_iload_n 9 rfl 1 rfl rfl ?_
      refine go_iload_n 10 rfl 3 rfl rfl ?_
      refine go_ishr 11 rfl ?_
      refine go_iconst 1 12 rfl (by decide) ?_
      refine go_iand 13 rfl ?_
      refine go_iload_n 14 rfl 3 rfl rfl ?_
      refine go_ishl 15 rfl ?_
      refine go_bipush 8 16 rfl (by decide) ?_
      refine go_iload_n 17 rfl 3 rfl rfl ?_
      refine go_imul 18 rfl ?_
      refine go_ishl 19 rfl ?_
      refine go_ior 20 rfl ?_
      obtain ⟨_, c, h⟩ := bd_inv h
      cases c
      refine go_istore_n 21 rfl rfl (Nat.le_of_ble_eq_true rfl) [(0, _), (1, _), (2, _), (3, _)] rfl ?_
      refine go_iinc 1 22 rfl 3 rfl (by decide) (Nat.le_of_ble_eq_true rfl) [(0, _), (1, _), (2, _), (3, _)] rfl ?_
      refine go_goto 4 23 rfl (by decide) ?_
      cases h
      have g9 := ih _ hc
      exact g9
set_option maxRecDepth 20000 in
theorem e_A_emptyPassage {l : Launch} {a0 : Nat} {a1 : Int32} {M : Mm} {r : Int32} (h0 : a0 < 7) (h : m_A_emptyPassage a0 a1 M = some r) : Ev l X_A_emptyPassage [vr 0 a0, vi a1] M (fun v M2 => v = (some (vi r)) ∧ M2 = M) := by
  refine Ev.of mk_A_emptyPassage [(0, vr 0 a0), (1, vi a1)] (fun _ => rfl) (fun _ => (Nat.le_of_ble_eq_true rfl)) ?_
  unfold m_A_emptyPassage at h
  refine go_iconst 0 0 rfl (by decide) ?_
  refine go_istore_n 1 rfl rfl (Nat.le_of_ble_eq_true rfl) [(0, _), (1, _), (2, _)] rfl ?_
  refine go_iconst 0 2 rfl (by decide) ?_
  refine go_istore_n 3 rfl rfl (Nat.le_of_ble_eq_true rfl) [(0, _), (1, _), (2, _), (3, _)] rfl ?_
  obtain ⟨r2, c, h⟩ := bd_inv h
  refine w_A_emptyPassage_4 _ _ _ (by omega) ?_ _ _ c
  refine go_iload_n 24 rfl 2 rfl rfl ?_
  cases h
  exact go_ireturn 25 rfl rfl rfl ⟨rfl, rfl⟩
def X_A_longerPassage : MX := (⟨"OmegaDesk$Automaton", "longerPassage", "(II)I"⟩, prog_2_method_17_code, 7, some .int, { frames := 1, cells := 0, slots := 0, locals := 22 },
  [(0, .iconst 0, 1), (1, .istore_n 3, 2), (2, .iconst 0, 3), (3, .istore 4, 5), (5, .iload 4, 7), (7, .aload_n 0, 8), (8, .getfield 9, 11), (11, .if_icmp .ge 59, 14), (14, .aload_n 0, 15), (15, .iload_n 1, 16), (16, .iload 4, 18), (18, .invokestatic 85, 21), (21, .iload_n 2, 22), (22, .invokevirtual 22, 25), (25, .istore 5, 27), (27, .aload_n 0, 28), (28, .iload_n 1, 29), (29, .iload 4, 31), (31, .invokestatic 88, 34), (34, .iload_n 2, 35), (35, .invokevirtual 22, 38), (38, .iload 5, 40), (40, .aload_n 0, 41), (41, .getfield 15, 44), (44, .iand, 45), (45, .ior, 46), (46, .istore 6, 48), (48, .iload_n 3, 49), (49, .iload 5, 51), (51, .iload 6, 53), (53, .iconst 4, 54), (54, .ishl, 55), (55, .ior, 56), (56, .bipush 8, 58), (58, .iload 4, 60), (60, .imul, 61), (61, .ishl, 62), (62, .ior, 63), (63, .istore_n 3, 64), (64, .iinc 4 1, 67), (67, .goto (-62), 70), (70, .iload_n 3, 71), (71, .ireturn, 72)])
set_option maxRecDepth 20000 in
theorem mk_A_longerPassage : Mk X_A_longerPassage := ⟨by unfold TBk; decide +kernel, by decide +kernel, wb_326, ⟨by decide, by decide⟩, rfl, rfl, wb_2⟩
theorem cs_A_85 : CS "OmegaDesk$Automaton" 85 X_P_ends 2 := ⟨Or.inl wb_327, wb_328, by decide +kernel⟩
theorem cs_A_88 : CS "OmegaDesk$Automaton" 88 X_P_goodEnds 2 := ⟨Or.inl wb_330, wb_331, by decide +kernel⟩
def b_A_longerPassage_5 (c0 : Nat) (c1 : Int32) (c2 : Int32) (M : Mm) (s : Int32 × Int32) : Option ((Int32 × Int32) ⊕ (Int32 × Int32)) :=
  if (M.1 (0, c0) 0) ≤ s.2 then
    some (Sum.inr (s.1, s.2))
  else
    bd (m_P_ends c1 s.2) fun r1 =>
    bd (m_A_followersOf c0 r1 c2 M) fun r2 =>
    bd (m_P_goodEnds c1 s.2) fun r3 =>
    bd (m_A_followersOf c0 r3 c2 M) fun r4 =>
    bd (some (s.1 ||| ((r2 ||| ((r4 ||| (r2 &&& (M.1 (0, c0) 1))) <<< ((4 : Int32) &&& 31))) <<< (((8 : Int32) * s.2) &&& 31)))) fun x5 =>
    some (Sum.inl (x5, (s.2 + 1)))
def m_A_longerPassage (a0 : Nat) (a1 : Int32) (a2 : Int32) (M : Mm) : Option (Int32) :=
  bd (lp (b_A_longerPassage_5 a0 a1 a2 M) ((0 : Int32), (0 : Int32))) fun r6 =>
  some r6.1
set_option maxRecDepth 20000 in
theorem w_A_longerPassage_5 {l : Launch} {post : Option PV → Mm → Prop} (c0 : Nat) (c1 : Int32) (c2 : Int32) (M : Mm) (h0 : c0 < 7) {r : Int32 × Int32} (kk : Go l X_A_longerPassage post 70 [(0, vr 0 c0), (1, vi c1), (2, vi c2), (3, vi r.1), (4, vi r.2)] [] M) : ∀ (n : Nat) (s : Int32 × Int32), lpN (b_A_longerPassage_5 c0 c1 c2 M) n s = some r → Go l X_A_longerPassage post 5 [(0, vr 0 c0), (1, vi c1), (2, vi c2), (3, vi s.1), (4, vi s.2)] [] M := by
  intro n
  induction n with
  | zero => intro s hc; exact (lpN_0 hc).elim
  | succ n ih =>
    intro s hc
    obtain ⟨q, h, hc⟩ := lpN_inv hc
    unfold b_A_longerPassage_5 at h
    refine go_iload 4 rfl 4 rfl ?_
    refine go_aload_n 5 rfl 0 rfl rfl ?_
    refine go_getfield 0 _ 6 rfl (by first | decide | exact ok0 (by omega) | exact ok1 (by omega) | exact ok2 (by omega) | exact ok7 (by omega)) rfl fg_A_9 rfl ?_
    refine go_icmp_ge 70 7 rfl (by decide) (fun c => ?_) (fun c => ?_)
    · replace h := ite_t c h
      cases h
      obtain rfl := lpq_r hc
      exact kk
    · replace h := ite_f c h
      refine go_aload_n 8 rfl 0 rfl rfl ?_
      refine go_iload_n 9 rfl 1 rfl rfl ?_
      refine go_iload 10 rfl 4 rfl ?_
      obtain ⟨r1, c, h⟩ := bd_inv h
      refine go_callS1 _ 11 rfl (e_P_ends c) mk_P_ends cs_A_85 rfl ⟨(Nat.le_of_ble_eq_true rfl), (Nat.le_of_ble_eq_true rfl)⟩ (Nat.le_of_ble_eq_true rfl) rfl ?_
      refine go_iload_n 12 rfl 2 rfl rfl ?_
      obtain ⟨r2, c, h⟩ := bd_inv h
      refine go_callV1 _ 13 rfl (e_A_followersOf (by omega) c) mk_A_followersOf (by first | decide | exact ok0 (by omega) | exact ok1 (by omega) | exact ok2 (by omega) | exact ok7 (by omega)) rfl cv_A_22 rfl ⟨(Nat.le_of_ble_eq_true rfl), (Nat.le_of_ble_eq_true rfl)⟩ (Nat.le_of_ble_eq_true rfl) rfl ?_
      refine go_istore 14 rfl (Nat.le_of_ble_eq_true rfl) [(0, _), (1, _), (2, _), (3, _), (4, _), (5, _)] rfl ?_
      refine go_aload_n 15 rfl 0 rfl rfl ?_
      refine go_iload_n 16 rfl 1 rfl rfl ?_
      refine go_iload 17 rfl 4 rfl ?_
      obtain ⟨r3, c, h⟩ := bd_inv h
      refine go_callS1 _ 18 rfl (e_P_goodEnds c) mk_P_goodEnds cs_A_88 rfl ⟨(Nat.le_of_ble_eq_true rfl), (Nat.le_of_ble_eq_true rfl)⟩ (Nat.le_of_ble_eq_true rfl) rfl ?_
      refine go_iload_n 19 rfl 2 rfl rfl ?_
      obtain ⟨r4, c, h⟩ := bd_inv h
      refine go_callV1 _ 20 rfl (e_A_followersOf (by omega) c) mk_A_followersOf (by first | decide | exact ok0 (by omega) | exact ok1 (by omega) | exact ok2 (by omega) | exact ok7 (by omega)) rfl cv_A_22 rfl ⟨(Nat.le_of_ble_eq_true rfl), (Nat.le_of_ble_eq_true rfl)⟩ (Nat.le_of_ble_eq_true rfl) rfl ?_
      refine go_iload 21 rfl 5 rfl ?_
      refine go_aload_n 22 rfl 0 rfl rfl ?_
      refine go_getfield 1 _ 23 rfl (by first | decide | exact ok0 (by omega) | exact ok1 (by omega) | exact ok2 (by omega) | exact ok7 (by omega)) rfl fg_A_15 rfl ?_
      refine go_iand 24 rfl ?_
      refine go_ior 25 rfl ?_
      refine go_istore 26 rfl (Nat.le_of_ble_eq_true rfl) [(0, _), (1, _), (2, _), (3, _), (4, _), (5, _), (6, _)] rfl ?_
      refine go_iload_n 27 rfl 3 rfl rfl ?_
      refine go_iload 28 rfl 5 rfl ?_
      refine go_iload 29 rfl 6 rfl ?_
      refine go_iconst 4 30 rfl (by decide) ?_
      refine go_ishl 31 rfl ?_
      refine go_ior 32 rfl ?_
      refine go_bipush 8 33 rfl (by decide) ?_
      refine go_iload 34 rfl 4 rfl ?_
      refine go_imul 35 rfl ?_
      refine go_ishl 36 rfl ?_
      refine go_ior 37 rfl ?_
      obtain ⟨_, c, h⟩ := bd_inv h
      cases c
      refine go_istore_n 38 rfl rfl (Nat.le_of_ble_eq_true rfl) [(0, _), (1, _), (2, _), (3, _), (4, _), (5, _), (6, _)] rfl ?_
      refine go_iinc 1 39 rfl 4 rfl (by decide) (Nat.le_of_ble_eq_true rfl) [(0, _), (1, _), (2, _), (3, _), (4, _), (5, _), (6, _)] rfl ?_
      refine go_goto 5 40 rfl (by decide) ?_
      cases h
      refine go_sub [0, 1, 2, 3, 4] rfl ?_
      have g9 := ih _ hc
      exact g9
set_option maxRecDepth 20000 in
theorem e_A_longerPassage {l : Launch} {a0 : Nat} {a1 : Int32} {a2 : Int32} {M : Mm} {r : Int32} (h0 : a0 < 7) (h : m_A_longerPassage a0 a1 a2 M = some r) : Ev l X_A_longerPassage [vr 0 a0, vi a1, vi a2] M (fun v M2 => v = (some (vi r)) ∧ M2 = M) := by
  refine Ev.of mk_A_longerPassage [(0, vr 0 a0), (1, vi a1), (2, vi a2)] (fun _ => rfl) (fun _ => (Nat.le_of_ble_eq_true rfl)) ?_
  unfold m_A_longerPassage at h
  refine go_iconst 0 0 rfl (by decide) ?_
  refine go_istore_n 1 rfl rfl (Nat.le_of_ble_eq_true rfl) [(0, _), (1, _), (2, _), (3, _)] rfl ?_
  refine go_iconst 0 2 rfl (by decide) ?_
  refine go_istore 3 rfl (Nat.le_of_ble_eq_true rfl) [(0, _), (1, _), (2, _), (3, _), (4, _)] rfl ?_
  obtain ⟨r6, c, h⟩ := bd_inv h
  refine w_A_longerPassage_5 _ _ _ _ (by omega) ?_ _ _ c
  refine go_iload_n 41 rfl 3 rfl rfl ?_
  cases h
  exact go_ireturn 42 rfl rfl rfl ⟨rfl, rfl⟩
def X_A_usefulStates : MX := (⟨"OmegaDesk$Automaton", "usefulStates", "()I"⟩, prog_2_method_15_code, 4, some .int, { frames := 3, cells := 0, slots := 0, locals := 68 },
  [(0, .aload_n 0, 1), (1, .iconst 1, 2), (2, .aload_n 0, 3), (3, .getfield 9, 6), (6, .ishl, 7), (7, .iconst 1, 8), (8, .isub, 9), (9, .invokevirtual 68, 12), (12, .istore_n 1, 13), (13, .aload_n 0, 14), (14, .iload_n 1, 15), (15, .iconst 0, 16), (16, .invokevirtual 71, 19), (19, .aload_n 0, 20), (20, .iload_n 1, 21), (21, .iconst 1, 22), (22, .invokevirtual 71, 25), (25, .ior, 26), (26, .istore_n 2, 27), (27, .iconst 1, 28), (28, .iload_n 2, 29), (29, .invokestatic 74, 32), (32, .invokestatic 79, 35), (35, .ior, 36), (36, .istore_n 3, 37), (37, .iload_n 3, 38), (38, .iload_n 2, 39), (39, .invokestatic 82, 42), (42, .iand, 43), (43, .ireturn, 44)])
set_option maxRecDepth 20000 in
theorem mk_A_usefulStates : Mk X_A_usefulStates := ⟨by unfold TBk; decide +kernel, by decide +kernel, wb_318, ⟨by decide, by decide⟩, rfl, rfl, wb_2⟩
theorem cv_A_68 : CV "OmegaDesk$Automaton" 68 X_A_emptyPassage 1 0 := ⟨Or.inl wb_319, ⟨wb_320, wb_321⟩, by decide +kernel, F_A, 3, rfl⟩
theorem cv_A_71 : CV "OmegaDesk$Automaton" 71 X_A_longerPassage 2 0 := ⟨Or.inl wb_323, ⟨wb_324, wb_325⟩, by decide +kernel, F_A, 3, rfl⟩
theorem cs_A_74 : CS "OmegaDesk$Automaton" 74 X_P_chained 1 := ⟨Or.inl wb_333, wb_334, by decide +kernel⟩
theorem cs_A_79 : CS "OmegaDesk$Automaton" 79 X_P_fromStart 1 := ⟨Or.inl wb_337, wb_338, by decide +kernel⟩
theorem cs_A_82 : CS "OmegaDesk$Automaton" 82 X_P_takenRepeated 1 := ⟨Or.inl wb_340, wb_341, by decide +kernel⟩
def m_A_usefulStates (a0 : Nat) (M : Mm) : Option (Int32) :=
  bd (m_A_emptyPassage a0 (((1 : Int32) <<< ((M.1 (0, a0) 0) &&& 31)) - (1 : Int32)) M) fun r1 =>
  bd (m_A_longerPassage a0 r1 (0 : Int32) M) fun r2 =>
  bd (m_A_longerPassage a0 r1 (1 : Int32) M) fun r3 =>
  bd (m_P_chained (r2 ||| r3)) fun r4 =>
  bd (m_P_fromStart r4) fun r5 =>
  bd (m_P_takenRepeated (r2 ||| r3)) fun r6 =>
  some (((1 : Int32) ||| r5) &&& r6)
set_option maxRecDepth 20000 in
theorem e_A_usefulStates {l : Launch} {a0 : Nat} {M : Mm} {r : Int32} (h0 : a0 < 7) (h : m_A_usefulStates a0 M = some r) : Ev l X_A_usefulStates [vr 0 a0] M (fun v M2 => v = (some (vi r)) ∧ M2 = M) := by
  refine Ev.of mk_A_usefulStates [(0, vr 0 a0)] (fun _ => rfl) (fun _ => (Nat.le_of_ble_eq_true rfl)) ?_
  unfold m_A_usefulStates at h
  refine go_aload_n 0 rfl 0 rfl rfl ?_
  refine go_iconst 1 1 rfl (by decide) ?_
  refine go_aload_n 2 rfl 0 rfl rfl ?_
  refine go_getfield 0 _ 3 rfl (by first | decide | exact ok0 (by omega) | exact ok1 (by omega) | exact ok2 (by omega) | exact ok7 (by omega)) rfl fg_A_9 rfl ?_
  refine go_ishl 4 rfl ?_
  refine go_iconst 1 5 rfl (by decide) ?_
  refine go_isub 6 rfl ?_
  obtain ⟨r1, c, h⟩ := bd_inv h
  refine go_callV1 _ 7 rfl (e_A_emptyPassage (by omega) c) mk_A_emptyPassage (by first | decide | exact ok0 (by omega) | exact ok1 (by omega) | exact ok2 (by omega) | exact ok7 (by omega)) rfl cv_A_68 rfl ⟨(Nat.le_of_ble_eq_true rfl), (Nat.le_of_ble_eq_true rfl)⟩ (Nat.le_of_ble_eq_true rfl) rfl ?_
  refine go_istore_n 8 rfl rfl (Nat.le_of_ble_eq_true rfl) [(0, _), (1, _)] rfl ?_
  refine go_aload_n 9 rfl 0 rfl rfl ?_
  refine go_iload_n 10 rfl 1 rfl rfl ?_
  refine go_iconst 0 11 rfl (by decide) ?_
  obtain ⟨r2, c, h⟩ := bd_inv h
  refine go_callV1 _ 12 rfl (e_A_longerPassage (by omega) c) mk_A_longerPassage (by first | decide | exact ok0 (by omega) | exact ok1 (by omega) | exact ok2 (by omega) | exact ok7 (by omega)) rfl cv_A_71 rfl ⟨(Nat.le_of_ble_eq_true rfl), (Nat.le_of_ble_eq_true rfl)⟩ (Nat.le_of_ble_eq_true rfl) rfl ?_
  refine go_aload_n 13 rfl 0 rfl rfl ?_
  refine go_iload_n 14 rfl 1 rfl rfl ?_
  refine go_iconst 1 15 rfl (by decide) ?_
  obtain ⟨r3, c, h⟩ := bd_inv h
  refine go_callV1 _ 16 rfl (e_A_longerPassage (by omega) c) mk_A_longerPassage (by first | decide | exact ok0 (by omega) | exact ok1 (by omega) | exact ok2 (by omega) | exact ok7 (by omega)) rfl cv_A_71 rfl ⟨(Nat.le_of_ble_eq_true rfl), (Nat.le_of_ble_eq_true rfl)⟩ (Nat.le_of_ble_eq_true rfl) rfl ?_
  refine go_ior 17 rfl ?_
  refine go_istore_n 18 rfl rfl (Nat.le_of_ble_eq_true rfl) [(0, _), (1, _), (2, _)] rfl ?_
  refine go_iconst 1 19 rfl (by decide) ?_
  refine go_iload_n 20 rfl 2 rfl rfl ?_
  obtain ⟨r4, c, h⟩ := bd_inv h
  refine go_callS1 _ 21 rfl (e_P_chained c) mk_P_chained cs_A_74 rfl ⟨(Nat.le_of_ble_eq_true rfl), (Nat.le_of_ble_eq_true rfl)⟩ (Nat.le_of_ble_eq_true rfl) rfl ?_
  obtain ⟨r5, c, h⟩ := bd_inv h
  refine go_callS1 _ 22 rfl (e_P_fromStart c) mk_P_fromStart cs_A_79 rfl ⟨(Nat.le_of_ble_eq_true rfl), (Nat.le_of_ble_eq_true rfl)⟩ (Nat.le_of_ble_eq_true rfl) rfl ?_
  refine go_ior 23 rfl ?_
  refine go_istore_n 24 rfl rfl (Nat.le_of_ble_eq_true rfl) [(0, _), (1, _), (2, _), (3, _)] rfl ?_
  refine go_iload_n 25 rfl 3 rfl rfl ?_
  refine go_iload_n 26 rfl 2 rfl rfl ?_
  obtain ⟨r6, c, h⟩ := bd_inv h
  refine go_callS1 _ 27 rfl (e_P_takenRepeated c) mk_P_takenRepeated cs_A_82 rfl ⟨(Nat.le_of_ble_eq_true rfl), (Nat.le_of_ble_eq_true rfl)⟩ (Nat.le_of_ble_eq_true rfl) rfl ?_
  refine go_iand 28 rfl ?_
  cases h
  exact go_ireturn 29 rfl rfl rfl ⟨rfl, rfl⟩
def X_A_passageOf : MX := (⟨"OmegaDesk$Automaton", "passageOf", "(II)I"⟩, prog_2_method_18_code, 5, some .int, { frames := 2, cells := 0, slots := 0, locals := 48 },
  [(0, .aload_n 0, 1), (1, .iconst 1, 2), (2, .aload_n 0, 3), (3, .getfield 9, 6), (6, .ishl, 7), (7, .iconst 1, 8), (8, .isub, 9), (9, .invokevirtual 68, 12), (12, .istore_n 3, 13), (13, .iload_n 1, 14), (14, .iconst 1, 15), (15, .isub, 16), (16, .istore 4, 18), (18, .iload 4, 20), (20, .ifCond .lt 21, 23), (23, .aload_n 0, 24), (24, .iload_n 3, 25), (25, .iload_n 2, 26), (26, .iload 4, 28), (28, .ishr, 29), (29, .iconst 1, 30), (30, .iand, 31), (31, .invokevirtual 71, 34), (34, .istore_n 3, 35), (35, .iinc 4 (-1), 38), (38, .goto (-20), 41), (41, .iload_n 3, 42), (42, .ireturn, 43)])
set_option maxRecDepth 20000 in
theorem mk_A_passageOf : Mk X_A_passageOf := ⟨by unfold TBk; decide +kernel, by decide +kernel, wb_388, ⟨by decide, by decide⟩, rfl, rfl, wb_2⟩
def b_A_passageOf_18 (c0 : Nat) (c2 : Int32) (M : Mm) (s : Int32 × Int32) : Option ((Int32 × Int32) ⊕ (Int32 × Int32)) :=
  if s.2 < 0 then
    some (Sum.inr (s.1, s.2))
  else
    bd (m_A_longerPassage c0 s.1 ((c2 >>> (s.2 &&& 31)) &&& (1 : Int32)) M) fun r2 =>
    some (Sum.inl (r2, (s.2 + (-1))))
def m_A_passageOf (a0 : Nat) (a1 : Int32) (a2 : Int32) (M : Mm) : Option (Int32) :=
  bd (m_A_emptyPassage a0 (((1 : Int32) <<< ((M.1 (0, a0) 0) &&& 31)) - (1 : Int32)) M) fun r1 =>
  bd (lp (b_A_passageOf_18 a0 a2 M) (r1, (a1 - (1 : Int32)))) fun r3 =>
  some r3.1
set_option maxRecDepth 20000 in
theorem w_A_passageOf_18 {l : Launch} {post : Option PV → Mm → Prop} (c0 : Nat) (c1 : Int32) (c2 : Int32) (M : Mm) (h0 : c0 < 7) {r : Int32 × Int32} (kk : Go l X_A_passageOf post 41 [(0, vr 0 c0), (1, vi c1), (2, vi c2), (3, vi r.1), (4, vi r.2)] [] M) : ∀ (n : Nat) (s : Int32 × Int32), lpN (b_A_passageOf_18 c0 c2 M) n s = some r → Go l X_A_passageOf post 18 [(0, vr 0 c0), (1, vi c1), (2, vi c2), (3, vi s.1), (4, vi s.2)] [] M := by
  intro n
  induction n with
  | zero => intro s hc; exact (lpN_0 hc).elim
  | succ n ih =>
    intro s hc
    obtain ⟨q, h, hc⟩ := lpN_inv hc
    unfold b_A_passageOf_18 at h
    refine go_iload 13 rfl 4 rfl ?_
    refine go_if_lt 41 14 rfl (by decide) (fun c => ?_) (fun c => ?_)
    · replace h := ite_t c h
      cases h
      obtain rfl := lpq_r hc
      exact kk
    · replace h := ite_f c h
      refine go_aload_n 15 rfl 0 rfl rfl ?_
      refine go_iload_n 16 rfl 3 rfl rfl ?_
      refine go_iload_n 17 rfl 2 rfl rfl ?_
      refine go_iload 18 rfl 4 rfl ?_
      refine go_ishr 19 rfl ?_
      refine go_iconst 1 20 rfl (by decide) ?_
      refine go_iand 21 rfl ?_
      obtain ⟨r2, c, h⟩ := bd_inv h
      refine go_callV1 _ 22 rfl (e_A_longerPassage (by omega) c) mk_A_longerPassage (by first | decide | exact ok0 (by omega) | exact ok1 (by omega) | exact ok2 (by omega) | exact ok7 (by omega)) rfl cv_A_71 rfl ⟨(Nat.le_of_ble_eq_true rfl), (Nat.le_of_ble_eq_true rfl)⟩ (Nat.le_of_ble_eq_true rfl) rfl ?_
      refine go_istore_n 23 rfl rfl (Nat.le_of_ble_eq_true rfl) [(0, _), (1, _), (2, _), (3, _), (4, _)] rfl ?_
      refine go_iinc (-1) 24 rfl 4 rfl (by decide) (Nat.le_of_ble_eq_true rfl) [(0, _), (1, _), (2, _), (3, _), (4, _)] rfl ?_
      refine go_goto 18 25 rfl (by decide) ?_
      cases h
      have g9 := ih _ hc
      exact g9
set_option maxRecDepth 20000 in
theorem e_A_passageOf {l : Launch} {a0 : Nat} {a1 : Int32} {a2 : Int32} {M : Mm} {r : Int32} (h0 : a0 < 7) (h : m_A_passageOf a0 a1 a2 M = some r) : Ev l X_A_passageOf [vr 0 a0, vi a1, vi a2] M (fun v M2 => v = (some (vi r)) ∧ M2 = M) := by
  refine Ev.of mk_A_passageOf [(0, vr 0 a0), (1, vi a1), (2, vi a2)] (fun _ => rfl) (fun _ => (Nat.le_of_ble_eq_true rfl)) ?_
  unfold m_A_passageOf at h
  refine go_aload_n 0 rfl 0 rfl rfl ?_
  refine go_iconst 1 1 rfl (by decide) ?_
  refine go_aload_n 2 rfl 0 rfl rfl ?_
  refine go_getfield 0 _ 3 rfl (by first | decide | exact ok0 (by omega) | exact ok1 (by omega) | exact ok2 (by omega) | exact ok7 (by omega)) rfl fg_A_9 rfl ?_
  refine go_ishl 4 rfl ?_
  refine go_iconst 1 5 rfl (by decide) ?_
  refine go_isub 6 rfl ?_
  obtain ⟨r1, c, h⟩ := bd_inv h
  refine go_callV1 _ 7 rfl (e_A_emptyPassage (by omega) c) mk_A_emptyPassage (by first | decide | exact ok0 (by omega) | exact ok1 (by omega) | exact ok2 (by omega) | exact ok7 (by omega)) rfl cv_A_68 rfl ⟨(Nat.le_of_ble_eq_true rfl), (Nat.le_of_ble_eq_true rfl)⟩ (Nat.le_of_ble_eq_true rfl) rfl ?_
  refine go_istore_n 8 rfl rfl (Nat.le_of_ble_eq_true rfl) [(0, _), (1, _), (2, _), (3, _)] rfl ?_
  refine go_iload_n 9 rfl 1 rfl rfl ?_
  refine go_iconst 1 10 rfl (by decide) ?_
  refine go_isub 11 rfl ?_
  refine go_istore 12 rfl (Nat.le_of_ble_eq_true rfl) [(0, _), (1, _), (2, _), (3, _), (4, _)] rfl ?_
  obtain ⟨r3, c, h⟩ := bd_inv h
  refine w_A_passageOf_18 _ _ _ _ (by omega) ?_ _ _ c
  refine go_iload_n 26 rfl 3 rfl rfl ?_
  cases h
  exact go_ireturn 27 rfl rfl rfl ⟨rfl, rfl⟩
