def X_M_thrown : MX := (⟨"OmegaDeskModel", "thrown", "()I"⟩, prog_8_method_2_code, 1, some .int, { frames := 0, cells := 0, slots := 0, locals := 0 },
  [(0, .aload_n 0, 1), (1, .getfield 41, 4), (4, .ireturn, 5)])
set_option maxRecDepth 20000 in
theorem mk_M_thrown : Mk X_M_thrown := ⟨by unfold TBk; decide +kernel, by decide +kernel, wb_566, ⟨by decide, by decide⟩, rfl, rfl, wb_6⟩
theorem fg_M_41 : FG "OmegaDeskModel" 41 8 0 := ⟨R_M, F_M, 12, rfl, by decide, uw_M, Or.inl wb_525⟩
def m_M_thrown  (M : Mm) : Option (Int32) :=
  some (M.1 (8, 0) 0)
set_option maxRecDepth 20000 in
theorem e_M_thrown {l : Launch}  {M : Mm} {r : Int32}  (h : m_M_thrown  M = some r) : Ev l X_M_thrown [vr 8 0] M (fun v M2 => v = (some (vi r)) ∧ M2 = M) := by
  refine Ev.of mk_M_thrown [(0, vr 8 0)] (fun _ => rfl) (fun _ => (Nat.le_of_ble_eq_true rfl)) ?_
  unfold m_M_thrown at h
  refine go_aload_n 0 rfl 0 rfl rfl ?_
  refine go_getfield 0 _ 1 rfl (by first | decide | exact ok0 (by omega) | exact ok1 (by omega) | exact ok2 (by omega) | exact ok7 (by omega)) rfl fg_M_41 rfl ?_
  cases h
  exact go_ireturn 2 rfl rfl rfl ⟨rfl, rfl⟩
def X_M_out : MX := (⟨"OmegaDeskModel", "out", "(II)Z"⟩, prog_8_method_3_code, 2, some .boolean, { frames := 0, cells := 0, slots := 0, locals := 0 },
  [(0, .iload_n 0, 1), (1, .ifCond .lt 8, 4), (4, .iload_n 0, 5), (5, .iload_n 1, 6), (6, .if_icmp .lt 7, 9), (9, .iconst 1, 10), (10, .goto 4, 13), (13, .iconst 0, 14), (14, .ireturn, 15)])
set_option maxRecDepth 20000 in
theorem mk_M_out : Mk X_M_out := ⟨by unfold TBk; decide +kernel, by decide +kernel, wb_573, ⟨by decide, by decide⟩, rfl, rfl, wb_6⟩
def m_M_out (a0 : Int32) (a1 : Int32) : Option (Bool) :=
  if a0 < 0 then
    some true
  else
    if a0 < a1 then
      some false
    else
      some true
set_option maxRecDepth 20000 in
theorem e_M_out {l : Launch} {a0 : Int32} {a1 : Int32} {M : Mm} {r : Bool}  (h : m_M_out a0 a1 = some r) : Ev l X_M_out [vi a0, vi a1] M (fun v M2 => v = (some (vi (bI r))) ∧ M2 = M) := by
  refine Ev.of mk_M_out [(0, vi a0), (1, vi a1)] (fun _ => rfl) (fun _ => (Nat.le_of_ble_eq_true rfl)) ?_
  unfold m_M_out at h
  refine go_iload_n 0 rfl 0 rfl rfl ?_
  refine go_if_lt 9 1 rfl (by decide) (fun c => ?_) (fun c => ?_)
  · replace h := ite_t c h
    refine go_iconst 1 5 rfl (by decide) ?_
    refine go_goto 14 6 rfl (by decide) ?_
    cases h
    exact go_ireturn 8 rfl rfl rfl ⟨rfl, rfl⟩
  · replace h := ite_f c h
    refine go_iload_n 2 rfl 0 rfl rfl ?_
    refine go_iload_n 3 rfl 1 rfl rfl ?_
    refine go_icmp_lt 13 4 rfl (by decide) (fun c => ?_) (fun c => ?_)
    · replace h := ite_t c h
      refine go_iconst 0 7 rfl (by decide) ?_
      cases h
      exact go_ireturn 8 rfl rfl rfl ⟨rfl, rfl⟩
    · replace h := ite_f c h
      refine go_iconst 1 5 rfl (by decide) ?_
      refine go_goto 14 6 rfl (by decide) ?_
      cases h
      exact go_ireturn 8 rfl rfl rfl ⟨rfl, rfl⟩
def X_M_fail : MX := (⟨"OmegaDeskModel", "fail", "(I)I"⟩, prog_8_method_4_code, 2, some .int, { frames := 0, cells := 0, slots := 0, locals := 0 },
  [(0, .aload_n 0, 1), (1, .iload_n 1, 2), (2, .putfield 41, 5), (5, .iconst 0, 6), (6, .ireturn, 7)])
set_option maxRecDepth 20000 in
theorem mk_M_fail : Mk X_M_fail := ⟨by unfold TBk; decide +kernel, by decide +kernel, wb_705, ⟨by decide, by decide⟩, rfl, rfl, wb_6⟩
theorem fp_M_41 : FP "OmegaDeskModel" 41 8 0 .int := ⟨R_M, F_M, 12, tf_M, rfl, by decide, uw_M, Or.inl wb_525, tf_M_ok, nf_M, rfl, by decide +kernel⟩
def m_M_fail (a1 : Int32) (M : Mm) : Option (Int32 × Mm) :=
  bd (some (uI M (8, 0) 0 a1)) fun M1 =>
  some ((0 : Int32), M1)
set_option maxRecDepth 20000 in
theorem e_M_fail {l : Launch} {a1 : Int32} {M : Mm} {r : Int32 × Mm}  (h : m_M_fail a1 M = some r) : Ev l X_M_fail [vr 8 0, vi a1] M (fun v M2 => v = (some (vi r.1)) ∧ M2 = r.2) := by
  refine Ev.of mk_M_fail [(0, vr 8 0), (1, vi a1)] (fun _ => rfl) (fun _ => (Nat.le_of_ble_eq_true rfl)) ?_
  unfold m_M_fail at h
  refine go_aload_n 0 rfl 0 rfl rfl ?_
  refine go_iload_n 1 rfl 1 rfl rfl ?_
  refine go_putfield 0 .int 2 rfl (by first | decide | exact ok0 (by omega) | exact ok1 (by omega) | exact ok2 (by omega) | exact ok7 (by omega)) rfl fp_M_41 rfl rfl (Nat.le_of_ble_eq_true rfl) rfl ?_
  obtain ⟨_, c, h⟩ := bd_inv h
  cases c
  refine go_iconst 0 3 rfl (by decide) ?_
  cases h
  exact go_ireturn 4 rfl rfl rfl ⟨rfl, rfl⟩
def X_M_add : MX := (⟨"OmegaDeskModel", "add", "(IZ)V"⟩, prog_8_method_5_code, 3, none, { frames := 0, cells := 0, slots := 0, locals := 0 },
  [(0, .aload_n 0, 1), (1, .getfield 7, 4), (4, .bipush 8, 6), (6, .iload_n 1, 7), (7, .imul, 8), (8, .aload_n 0, 9), (9, .getfield 16, 12), (12, .iload_n 1, 13), (13, .iaload, 14), (14, .iadd, 15), (15, .iconst 0, 16), (16, .iastore, 17), (17, .aload_n 0, 18), (18, .getfield 7, 21), (21, .bipush 8, 23), (23, .iload_n 1, 24), (24, .imul, 25), (25, .iconst 4, 26), (26, .iadd, 27), (27, .aload_n 0, 28), (28, .getfield 16, 31), (31, .iload_n 1, 32), (32, .iaload, 33), (33, .iadd, 34), (34, .iconst 0, 35), (35, .iastore, 36), (36, .aload_n 0, 37), (37, .getfield 13, 40), (40, .iload_n 1, 41), (41, .iload_n 2, 42), (42, .ifCond .eq 21, 45), (45, .aload_n 0, 46), (46, .getfield 13, 49), (49, .iload_n 1, 50), (50, .iaload, 51), (51, .iconst 1, 52), (52, .aload_n 0, 53), (53, .getfield 16, 56), (56, .iload_n 1, 57), (57, .iaload, 58), (58, .ishl, 59), (59, .ior, 60), (60, .goto 20, 63), (63, .aload_n 0, 64), (64, .getfield 13, 67), (67, .iload_n 1, 68), (68, .iaload, 69), (69, .iconst 1, 70), (70, .aload_n 0, 71), (71, .getfield 16, 74), (74, .iload_n 1, 75), (75, .iaload, 76), (76, .ishl, 77), (77, .iconst (-1), 78), (78, .ixor, 79), (79, .iand, 80), (80, .iastore, 81), (81, .aload_n 0, 82), (82, .getfield 16, 85), (85, .iload_n 1, 86), (86, .dup2, 87), (87, .iaload, 88), (88, .iconst 1, 89), (89, .iadd, 90), (90, .iastore, 91), (91, .return_, 92)])
set_option maxRecDepth 20000 in
theorem mk_M_add : Mk X_M_add := ⟨by unfold TBk; decide +kernel, by decide +kernel, wb_577, ⟨by decide, by decide⟩, rfl, rfl, wb_6⟩
theorem fg_M_7 : FG "OmegaDeskModel" 7 8 1 := ⟨R_M, F_M, 12, rfl, by decide, uw_M, Or.inl wb_526⟩
theorem fg_M_16 : FG "OmegaDeskModel" 16 8 3 := ⟨R_M, F_M, 12, rfl, by decide, uw_M, Or.inl wb_528⟩
theorem fg_M_13 : FG "OmegaDeskModel" 13 8 2 := ⟨R_M, F_M, 12, rfl, by decide, uw_M, Or.inl wb_527⟩
def m_M_add (a1 : Int32) (a2 : Bool) (M : Mm) : Option (Mm) :=
  ck (inb a1 (lenI 18)) <|
  ck (inb (((8 : Int32) * a1) + (M.1 (1, 18) a1.toNatClampNeg)) (lenI 16)) <|
  bd (some (uI M (1, 16) (((8 : Int32) * a1) + (M.1 (1, 18) a1.toNatClampNeg)).toNatClampNeg (0 : Int32))) fun M1 =>
  ck (inb a1 (lenI 18)) <|
  ck (inb ((((8 : Int32) * a1) + (4 : Int32)) + (M1.1 (1, 18) a1.toNatClampNeg)) (lenI 16)) <|
  bd (some (uI M1 (1, 16) ((((8 : Int32) * a1) + (4 : Int32)) + (M1.1 (1, 18) a1.toNatClampNeg)).toNatClampNeg (0 : Int32))) fun M2 =>
  if (bI a2) = 0 then
    ck (inb a1 (lenI 17)) <|
    ck (inb a1 (lenI 18)) <|
    ck (inb a1 (lenI 17)) <|
    bd (some (uI M2 (1, 17) a1.toNatClampNeg ((M2.1 (1, 17) a1.toNatClampNeg) &&& (((1 : Int32) <<< ((M2.1 (1, 18) a1.toNatClampNeg) &&& 31)) ^^^ (-1 : Int32))))) fun M3 =>
    ck (inb a1 (lenI 18)) <|
    ck (inb a1 (lenI 18)) <|
    bd (some (uI M3 (1, 18) a1.toNatClampNeg ((M3.1 (1, 18) a1.toNatClampNeg) + (1 : Int32)))) fun M4 =>
    some M4
  else
    ck (inb a1 (lenI 17)) <|
    ck (inb a1 (lenI 18)) <|
    ck (inb a1 (lenI 17)) <|
    bd (some (uI M2 (1, 17) a1.toNatClampNeg ((M2.1 (1, 17) a1.toNatClampNeg) ||| ((1 : Int32) <<< ((M2.1 (1, 18) a1.toNatClampNeg) &&& 31))))) fun M5 =>
    ck (inb a1 (lenI 18)) <|
    ck (inb a1 (lenI 18)) <|
    bd (some (uI M5 (1, 18) a1.toNatClampNeg ((M5.1 (1, 18) a1.toNatClampNeg) + (1 : Int32)))) fun M6 =>
    some M6
set_option maxRecDepth 20000 in
theorem e_M_add {l : Launch} {a1 : Int32} {a2 : Bool} {M : Mm} {r : Mm}  (h : m_M_add a1 a2 M = some r) : Ev l X_M_add [vr 8 0, vi a1, vi (bI a2)] M (fun v M2 => v = none ∧ M2 = r) := by
  refine Ev.of mk_M_add [(0, vr 8 0), (1, vi a1), (2, vi (bI a2))] (fun _ => rfl) (fun _ => (Nat.le_of_ble_eq_true rfl)) ?_
  unfold m_M_add at h
  refine go_aload_n 0 rfl 0 rfl rfl ?_
  refine go_getfield 1 _ 1 rfl (by first | decide | exact ok0 (by omega) | exact ok1 (by omega) | exact ok2 (by omega) | exact ok7 (by omega)) rfl fg_M_7 rfl ?_
  refine go_bipush 8 2 rfl (by decide) ?_
  refine go_iload_n 3 rfl 1 rfl rfl ?_
  refine go_imul 4 rfl ?_
  refine go_aload_n 5 rfl 0 rfl rfl ?_
  refine go_getfield 3 _ 6 rfl (by first | decide | exact ok0 (by omega) | exact ok1 (by omega) | exact ok2 (by omega) | exact ok7 (by omega)) rfl fg_M_16 rfl ?_
  refine go_iload_n 7 rfl 1 rfl rfl ?_
  obtain ⟨c, h⟩ := ck_inv h
  refine go_iaload 8 rfl (by first | decide | exact ok0 (by omega) | exact ok1 (by omega) | exact ok2 (by omega) | exact ok7 (by omega)) (inb_vp c) ?_
  refine go_iadd 9 rfl ?_
  refine go_iconst 0 10 rfl (by decide) ?_
  obtain ⟨c, h⟩ := ck_inv h
  refine go_iastore 11 rfl (by first | decide | exact ok0 (by omega) | exact ok1 (by omega) | exact ok2 (by omega) | exact ok7 (by omega)) (inb_vp c) ?_
  obtain ⟨_, c, h⟩ := bd_inv h
  cases c
  refine go_aload_n 12 rfl 0 rfl rfl ?_
  refine go_getfield 1 _ 13 rfl (by first | decide | exact ok0 (by omega) | exact ok1 (by omega) | exact ok2 (by omega) | exact ok7 (by omega)) rfl fg_M_7 rfl ?_
  refine go_bipush 8 14 rfl (by decide) ?_
  refine go_iload_n 15 rfl 1 rfl rfl ?_
  refine go_imul 16 rfl ?_
  refine go_iconst 4 17 rfl (by decide) ?_
  refine go_iadd 18 rfl ?_
  refine go_aload_n 19 rfl 0 rfl rfl ?_
  refine go_getfield 3 _ 20 rfl (by first | decide | exact ok0 (by omega) | exact ok1 (by omega) | exact ok2 (by omega) | exact ok7 (by omega)) rfl fg_M_16 rfl ?_
  refine go_iload_n 21 rfl 1 rfl rfl ?_
  obtain ⟨c, h⟩ := ck_inv h
  refine go_iaload 22 rfl (by first | decide | exact ok0 (by omega) | exact ok1 (by omega) | exact ok2 (by omega) | exact ok7 (by omega)) (inb_vp c) ?_
  refine go_iadd 23 rfl ?_
  refine go_iconst 0 24 rfl (by decide) ?_
  obtain ⟨c, h⟩ := ck_inv h
  refine go_iastore 25 rfl (by first | decide | exact ok0 (by omega) | exact ok1 (by omega) | exact ok2 (by omega) | exact ok7 (by omega)) (inb_vp c) ?_
  obtain ⟨_, c, h⟩ := bd_inv h
  cases c
  refine go_aload_n 26 rfl 0 rfl rfl ?_
  refine go_getfield 2 _ 27 rfl (by first | decide | exact ok0 (by omega) | exact ok1 (by omega) | exact ok2 (by omega) | exact ok7 (by omega)) rfl fg_M_13 rfl ?_
  refine go_iload_n 28 rfl 1 rfl rfl ?_
  refine go_iload_n 29 rfl 2 rfl rfl ?_
  refine go_if_eq 63 30 rfl (by decide) (fun c => ?_) (fun c => ?_)
  · replace h := ite_t c h
    refine go_aload_n 43 rfl 0 rfl rfl ?_
    refine go_getfield 2 _ 44 rfl (by first | decide | exact ok0 (by omega) | exact ok1 (by omega) | exact ok2 (by omega) | exact ok7 (by omega)) rfl fg_M_13 rfl ?_
    refine go_iload_n 45 rfl 1 rfl rfl ?_
    obtain ⟨c, h⟩ := ck_inv h
    refine go_iaload 46 rfl (by first | decide | exact ok0 (by omega) | exact ok1 (by omega) | exact ok2 (by omega) | exact ok7 (by omega)) (inb_vp c) ?_
    refine go_iconst 1 47 rfl (by decide) ?_
    refine go_aload_n 48 rfl 0 rfl rfl ?_
    refine go_getfield 3 _ 49 rfl (by first | decide | exact ok0 (by omega) | exact ok1 (by omega) | exact ok2 (by omega) | exact ok7 (by omega)) rfl fg_M_16 rfl ?_
    refine go_iload_n 50 rfl 1 rfl rfl ?_
    obtain ⟨c, h⟩ := ck_inv h
    refine go_iaload 51 rfl (by first | decide | exact ok0 (by omega) | exact ok1 (by omega) | exact ok2 (by omega) | exact ok7 (by omega)) (inb_vp c) ?_
    refine go_ishl 52 rfl ?_
    refine go_iconst (-1) 53 rfl (by decide) ?_
    refine go_ixor 54 rfl ?_
    refine go_iand 55 rfl ?_
    obtain ⟨c, h⟩ := ck_inv h
    refine go_iastore 56 rfl (by first | decide | exact ok0 (by omega) | exact ok1 (by omega) | exact ok2 (by omega) | exact ok7 (by omega)) (inb_vp c) ?_
    obtain ⟨_, c, h⟩ := bd_inv h
    cases c
    refine go_aload_n 57 rfl 0 rfl rfl ?_
    refine go_getfield 3 _ 58 rfl (by first | decide | exact ok0 (by omega) | exact ok1 (by omega) | exact ok2 (by omega) | exact ok7 (by omega)) rfl fg_M_16 rfl ?_
    refine go_iload_n 59 rfl 1 rfl rfl ?_
    refine go_dup2 60 rfl rfl rfl ?_
    obtain ⟨c, h⟩ := ck_inv h
    refine go_iaload 61 rfl (by first | decide | exact ok0 (by omega) | exact ok1 (by omega) | exact ok2 (by omega) | exact ok7 (by omega)) (inb_vp c) ?_
    refine go_iconst 1 62 rfl (by decide) ?_
    refine go_iadd 63 rfl ?_
    obtain ⟨c, h⟩ := ck_inv h
    refine go_iastore 64 rfl (by first | decide | exact ok0 (by omega) | exact ok1 (by omega) | exact ok2 (by omega) | exact ok7 (by omega)) (inb_vp c) ?_
    obtain ⟨_, c, h⟩ := bd_inv h
    cases c
    cases h
    exact go_return 65 rfl rfl ⟨rfl, rfl⟩
  · replace h := ite_f c h
    refine go_aload_n 31 rfl 0 rfl rfl ?_
    refine go_getfield 2 _ 32 rfl (by first | decide | exact ok0 (by omega) | exact ok1 (by omega) | exact ok2 (by omega) | exact ok7 (by omega)) rfl fg_M_13 rfl ?_
    refine go_iload_n 33 rfl 1 rfl rfl ?_
    obtain ⟨c, h⟩ := ck_inv h
    refine go_iaload 34 rfl (by first | decide | exact ok0 (by omega) | exact ok1 (by omega) | exact ok2 (by omega) | exact ok7 (by omega)) (inb_vp c) ?_
    refine go_iconst 1 35 rfl (by decide) ?_
    refine go_aload_n 36 rfl 0 rfl rfl ?_
    refine go_getfield 3 _ 37 rfl (by first | decide | exact ok0 (by omega) | exact ok1 (by omega) | exact ok2 (by omega) | exact ok7 (by omega)) rfl fg_M_16 rfl ?_
    refine go_iload_n 38 rfl 1 rfl rfl ?_
    obtain ⟨c, h⟩ := ck_inv h
    refine go_iaload 39 rfl (by first | decide | exact ok0 (by omega) | exact ok1 (by omega) | exact ok2 (by omega) | exact ok7 (by omega)) (inb_vp c) ?_
    refine go_ishl 40 rfl ?_
    refine go_ior 41 rfl ?_
    refine go_goto 80 42 rfl (by decide) ?_
    obtain ⟨c, h⟩ := ck_inv h
    refine go_iastore 56 rfl (by first | decide | exact ok0 (by omega) | exact ok1 (by omega) | exact ok2 (by omega) | exact ok7 (by omega)) (inb_vp c) ?_
    obtain ⟨_, c, h⟩ := bd_inv h
    cases c
    refine go_aload_n 57 rfl 0 rfl rfl ?_
    refine go_getfield 3 _ 58 rfl (by first | decide | exact ok0 (by omega) | exact ok1 (by omega) | exact ok2 (by omega) | exact ok7 (by omega)) rfl fg_M_16 rfl ?_
    refine go_iload_n 59 rfl 1 rfl rfl ?_
    refine go_dup2 60 rfl rfl rfl ?_
    obtain ⟨c, h⟩ := ck_inv h
    refine go_iaload 61 rfl (by first | decide | exact ok0 (by omega) | exact ok1 (by omega) | exact ok2 (by omega) | exact ok7 (by omega)) (inb_vp c) ?_
    refine go_iconst 1 62 rfl (by decide) ?_
    refine go_iadd 63 rfl ?_
    obtain ⟨c, h⟩ := ck_inv h
    refine go_iastore 64 rfl (by first | decide | exact ok0 (by omega) | exact ok1 (by omega) | exact ok2 (by omega) | exact ok7 (by omega)) (inb_vp c) ?_
    obtain ⟨_, c, h⟩ := bd_inv h
    cases c
    cases h
    exact go_return 65 rfl rfl ⟨rfl, rfl⟩
def X_M_state : MX := (⟨"OmegaDeskModel", "state", "(IZ)I"⟩, prog_8_method_6_code, 3, some .int, { frames := 1, cells := 0, slots := 0, locals := 22 },
  [(0, .aload_n 0, 1), (1, .iload_n 1, 2), (2, .bipush 6, 4), (4, .invokestatic 45, 7), (7, .ifCond .eq 7, 10), (10, .iconst 1, 11), (11, .goto 18, 14), (14, .aload_n 0, 15), (15, .getfield 16, 18), (18, .iload_n 1, 19), (19, .iaload, 20), (20, .iconst 4, 21), (21, .if_icmp .ne 7, 24), (24, .iconst 2, 25), (25, .goto 4, 28), (28, .iconst 0, 29), (29, .putfield 41, 32), (32, .aload_n 0, 33), (33, .getfield 41, 36), (36, .ifCond .le 5, 39), (39, .iconst 0, 40), (40, .ireturn, 41), (41, .aload_n 0, 42), (42, .iload_n 1, 43), (43, .iload_n 2, 44), (44, .invokevirtual 49, 47), (47, .aload_n 0, 48), (48, .getfield 16, 51), (51, .iload_n 1, 52), (52, .iaload, 53), (53, .iconst 1, 54), (54, .isub, 55), (55, .ireturn, 56)])
set_option maxRecDepth 20000 in
theorem mk_M_state : Mk X_M_state := ⟨by unfold TBk; decide +kernel, by decide +kernel, wb_570, ⟨by decide, by decide⟩, rfl, rfl, wb_6⟩
theorem cs_M_45 : CS "OmegaDeskModel" 45 X_M_out 2 := ⟨Or.inl wb_571, wb_572, by decide +kernel⟩
theorem cv_M_49 : CV "OmegaDeskModel" 49 X_M_add 2 8 := ⟨Or.inl wb_574, ⟨wb_576, ws_M_add⟩, by decide +kernel, F_M, 12, rfl⟩
def m_M_state (a1 : Int32) (a2 : Bool) (M : Mm) : Option (Int32 × Mm) :=
  bd (m_M_out a1 (6 : Int32)) fun r1 =>
  if (bI r1) = 0 then
    ck (inb a1 (lenI 18)) <|
    if (M.1 (1, 18) a1.toNatClampNeg) = (4 : Int32) then
      bd (some (uI M (8, 0) 0 (2 : Int32))) fun M4 =>
      if (M4.1 (8, 0) 0) ≤ 0 then
        bd (m_M_add a1 a2 M4) fun r5 =>
        ck (inb a1 (lenI 18)) <|
        some (((r5.1 (1, 18) a1.toNatClampNeg) - (1 : Int32)), r5)
      else
        some ((0 : Int32), M4)
    else
      bd (some (uI M (8, 0) 0 (0 : Int32))) fun M2 =>
      if (M2.1 (8, 0) 0) ≤ 0 then
        bd (m_M_add a1 a2 M2) fun r3 =>
        ck (inb a1 (lenI 18)) <|
        some (((r3.1 (1, 18) a1.toNatClampNeg) - (1 : Int32)), r3)
      else
        some ((0 : Int32), M2)
  else
    bd (some (uI M (8, 0) 0 (1 : Int32))) fun M6 =>
    if (M6.1 (8, 0) 0) ≤ 0 then
      bd (m_M_add a1 a2 M6) fun r7 =>
      ck (inb a1 (lenI 18)) <|
      some (((r7.1 (1, 18) a1.toNatClampNeg) - (1 : Int32)), r7)
    else
      some ((0 : Int32), M6)
set_option maxRecDepth 20000 in
theorem e_M_state {l : Launch} {a1 : Int32} {a2 : Bool} {M : Mm} {r : Int32 × Mm}  (h : m_M_state a1 a2 M = some r) : Ev l X_M_state [vr 8 0, vi a1, vi (bI a2)] M (fun v M2 => v = (some (vi r.1)) ∧ M2 = r.2) := by
  refine Ev.of mk_M_state [(0, vr 8 0), (1, vi a1), (2, vi (bI a2))] (fun _ => rfl) (fun _ => (Nat.le_of_ble_eq_true rfl)) ?_
  unfold m_M_state at h
  refine go_aload_n 0 rfl 0 rfl rfl ?_
  refine go_iload_n 1 rfl 1 rfl rfl ?_
  refine go_bipush 6 2 rfl (by decide) ?_
  obtain ⟨r1, c, h⟩ := bd_inv h
  refine go_callS1 _ 3 rfl (e_M_out c) mk_M_out cs_M_45 rfl ⟨(Nat.le_of_ble_eq_true rfl), (Nat.le_of_ble_eq_true rfl)⟩ (Nat.le_of_ble_eq_true rfl) rfl ?_
  refine go_if_eq 14 4 rfl (by decide) (fun c => ?_) (fun c => ?_)
  · replace h := ite_t c h
    refine go_aload_n 7 rfl 0 rfl rfl ?_
    refine go_getfield 3 _ 8 rfl (by first | decide | exact ok0 (by omega) | exact ok1 (by omega) | exact ok2 (by omega) | exact ok7 (by omega)) rfl fg_M_16 rfl ?_
    refine go_iload_n 9 rfl 1 rfl rfl ?_
    obtain ⟨c, h⟩ := ck_inv h
    refine go_iaload 10 rfl (by first | decide | exact ok0 (by omega) | exact ok1 (by omega) | exact ok2 (by omega) | exact ok7 (by omega)) (inb_vp c) ?_
    refine go_iconst 4 11 rfl (by decide) ?_
    refine go_icmp_ne 28 12 rfl (by decide) (fun c => ?_) (fun c => ?_)
    · replace h := ite_f c h
      refine go_iconst 0 15 rfl (by decide) ?_
      refine go_putfield 0 .int 16 rfl (by first | decide | exact ok0 (by omega) | exact ok1 (by omega) | exact ok2 (by omega) | exact ok7 (by omega)) rfl fp_M_41 rfl rfl (Nat.le_of_ble_eq_true rfl) rfl ?_
      obtain ⟨_, c, h⟩ := bd_inv h
      cases c
      refine go_aload_n 17 rfl 0 rfl rfl ?_
      refine go_getfield 0 _ 18 rfl (by first | decide | exact ok0 (by omega) | exact ok1 (by omega) | exact ok2 (by omega) | exact ok7 (by omega)) rfl fg_M_41 rfl ?_
      refine go_if_le 41 19 rfl (by decide) (fun c => ?_) (fun c => ?_)
      · replace h := ite_t c h
        refine go_aload_n 22 rfl 0 rfl rfl ?_
        refine go_iload_n 23 rfl 1 rfl rfl ?_
        refine go_iload_n 24 rfl 2 rfl rfl ?_
        obtain ⟨r3, c, h⟩ := bd_inv h
        refine go_callV1 _ 25 rfl (e_M_add c) mk_M_add (by first | decide | exact ok0 (by omega) | exact ok1 (by omega) | exact ok2 (by omega) | exact ok7 (by omega)) rfl cv_M_49 rfl ⟨(Nat.le_of_ble_eq_true rfl), (Nat.le_of_ble_eq_true rfl)⟩ (Nat.le_of_ble_eq_true rfl) rfl ?_
        refine go_aload_n 26 rfl 0 rfl rfl ?_
        refine go_getfield 3 _ 27 rfl (by first | decide | exact ok0 (by omega) | exact ok1 (by omega) | exact ok2 (by omega) | exact ok7 (by omega)) rfl fg_M_16 rfl ?_
        refine go_iload_n 28 rfl 1 rfl rfl ?_
        obtain ⟨c, h⟩ := ck_inv h
        refine go_iaload 29 rfl (by first | decide | exact ok0 (by omega) | exact ok1 (by omega) | exact ok2 (by omega) | exact ok7 (by omega)) (inb_vp c) ?_
        refine go_iconst 1 30 rfl (by decide) ?_
        refine go_isub 31 rfl ?_
        cases h
        exact go_ireturn 32 rfl rfl rfl ⟨rfl, rfl⟩
      · replace h := ite_f c h
        refine go_iconst 0 20 rfl (by decide) ?_
        cases h
        exact go_ireturn 21 rfl rfl rfl ⟨rfl, rfl⟩
    · replace h := ite_t c h
      refine go_iconst 2 13 rfl (by decide) ?_
      refine go_goto 29 14 rfl (by decide) ?_
      refine go_putfield 0 .int 16 rfl (by first | decide | exact ok0 (by omega) | exact ok1 (by omega) | exact ok2 (by omega) | exact ok7 (by omega)) rfl fp_M_41 rfl rfl (Nat.le_of_ble_eq_true rfl) rfl ?_
      obtain ⟨_, c, h⟩ := bd_inv h
      cases c
      refine go_aload_n 17 rfl 0 rfl rfl ?_
      refine go_getfield 0 _ 18 rfl (by first | decide | exact ok0 (by omega) | exact ok1 (by omega) | exact ok2 (by omega) | exact ok7 (by omega)) rfl fg_M_41 rfl ?_
      refine go_if_le 41 19 rfl (by decide) (fun c => ?_) (fun c => ?_)
      · replace h := ite_t c h
        refine go_aload_n 22 rfl 0 rfl rfl ?_
        refine go_iload_n 23 rfl 1 rfl rfl ?_
        refine go_iload_n 24 rfl 2 rfl rfl ?_
        obtain ⟨r5, c, h⟩ := bd_inv h
        refine go_callV1 _ 25 rfl (e_M_add c) mk_M_add (by first | decide | exact ok0 (by omega) | exact ok1 (by omega) | exact ok2 (by omega) | exact ok7 (by omega)) rfl cv_M_49 rfl ⟨(Nat.le_of_ble_eq_true rfl), (Nat.le_of_ble_eq_true rfl)⟩ (Nat.le_of_ble_eq_true rfl) rfl ?_
        refine go_aload_n 26 rfl 0 rfl rfl ?_
        refine go_getfield 3 _ 27 rfl (by first | decide | exact ok0 (by omega) | exact ok1 (by omega) | exact ok2 (by omega) | exact ok7 (by omega)) rfl fg_M_16 rfl ?_
        refine go_iload_n 28 rfl 1 rfl rfl ?_
        obtain ⟨c, h⟩ := ck_inv h
        refine go_iaload 29 rfl (by first | decide | exact ok0 (by omega) | exact ok1 (by omega) | exact ok2 (by omega) | exact ok7 (by omega)) (inb_vp c) ?_
        refine go_iconst 1 30 rfl (by decide) ?_
        refine go_isub 31 rfl ?_
        cases h
        exact go_ireturn 32 rfl rfl rfl ⟨rfl, rfl⟩
      · replace h := ite_f c h
        refine go_iconst 0 20 rfl (by decide) ?_
        cases h
        exact go_ireturn 21 rfl rfl rfl ⟨rfl, rfl⟩
  · replace h := ite_f c h
    refine go_iconst 1 5 rfl (by decide) ?_
    refine go_goto 29 6 rfl (by decide) ?_
    refine go_putfield 0 .int 16 rfl (by first | decide | exact ok0 (by omega) | exact ok1 (by omega) | exact ok2 (by omega) | exact ok7 (by omega)) rfl fp_M_41 rfl rfl (Nat.le_of_ble_eq_true rfl) rfl ?_
    obtain ⟨_, c, h⟩ := bd_inv h
    cases c
    refine go_aload_n 17 rfl 0 rfl rfl ?_
    refine go_getfield 0 _ 18 rfl (by first | decide | exact ok0 (by omega) | exact ok1 (by omega) | exact ok2 (by omega) | exact ok7 (by omega)) rfl fg_M_41 rfl ?_
    refine go_if_le 41 19 rfl (by decide) (fun c => ?_) (fun c => ?_)
    · replace h := ite_t c h
      refine go_aload_n 22 rfl 0 rfl rfl ?_
      refine go_iload_n 23 rfl 1 rfl rfl ?_
      refine go_iload_n 24 rfl 2 rfl rfl ?_
      obtain ⟨r7, c, h⟩ := bd_inv h
      refine go_callV1 _ 25 rfl (e_M_add c) mk_M_add (by first | decide | exact ok0 (by omega) | exact ok1 (by omega) | exact ok2 (by omega) | exact ok7 (by omega)) rfl cv_M_49 rfl ⟨(Nat.le_of_ble_eq_true rfl), (Nat.le_of_ble_eq_true rfl)⟩ (Nat.le_of_ble_eq_true rfl) rfl ?_
      refine go_aload_n 26 rfl 0 rfl rfl ?_
      refine go_getfield 3 _ 27 rfl (by first | decide | exact ok0 (by omega) | exact ok1 (by omega) | exact ok2 (by omega) | exact ok7 (by omega)) rfl fg_M_16 rfl ?_
      refine go_iload_n 28 rfl 1 rfl rfl ?_
      obtain ⟨c, h⟩ := ck_inv h
      refine go_iaload 29 rfl (by first | decide | exact ok0 (by omega) | exact ok1 (by omega) | exact ok2 (by omega) | exact ok7 (by omega)) (inb_vp c) ?_
      refine go_iconst 1 30 rfl (by decide) ?_
      refine go_isub 31 rfl ?_
      cases h
      exact go_ireturn 32 rfl rfl rfl ⟨rfl, rfl⟩
    · replace h := ite_f c h
      refine go_iconst 0 20 rfl (by decide) ?_
      cases h
      exact go_ireturn 21 rfl rfl rfl ⟨rfl, rfl⟩
def X_M_isEdge : MX := (⟨"OmegaDeskModel", "isEdge", "(IIII)Z"⟩, prog_8_method_7_code, 5, some .boolean, { frames := 1, cells := 0, slots := 0, locals := 21 },
  [(0, .iload_n 1, 1), (1, .bipush 6, 3), (3, .invokestatic 45, 6), (6, .ifCond .ne 42, 9), (9, .iload_n 2, 10), (10, .aload_n 0, 11), (11, .getfield 16, 14), (14, .iload_n 1, 15), (15, .iaload, 16), (16, .invokestatic 45, 19), (19, .ifCond .ne 29, 22), (22, .iload 4, 24), (24, .aload_n 0, 25), (25, .getfield 16, 28), (28, .iload_n 1, 29), (29, .iaload, 30), (30, .invokestatic 45, 33), (33, .ifCond .ne 15, 36), (36, .iload_n 3, 37), (37, .iconst 2, 38), (38, .invokestatic 45, 41), (41, .ifCond .ne 7, 44), (44, .iconst 1, 45), (45, .goto 4, 48), (48, .iconst 0, 49), (49, .ireturn, 50)])
set_option maxRecDepth 20000 in
theorem mk_M_isEdge : Mk X_M_isEdge := ⟨by unfold TBk; decide +kernel, by decide +kernel, wb_585, ⟨by decide, by decide⟩, rfl, rfl, wb_6⟩
def m_M_isEdge (a1 : Int32) (a2 : Int32) (a3 : Int32) (a4 : Int32) (M : Mm) : Option (Bool) :=
  bd (m_M_out a1 (6 : Int32)) fun r1 =>
  if (bI r1) = 0 then
    ck (inb a1 (lenI 18)) <|
    bd (m_M_out a2 (M.1 (1, 18) a1.toNatClampNeg)) fun r2 =>
    if (bI r2) = 0 then
      ck (inb a1 (lenI 18)) <|
      bd (m_M_out a4 (M.1 (1, 18) a1.toNatClampNeg)) fun r3 =>
      if (bI r3) = 0 then
        bd (m_M_out a3 (2 : Int32)) fun r4 =>
        if (bI r4) = 0 then
          some true
        else
          some false
      else
        some false
    else
      some false
  else
    some false
set_option maxRecDepth 20000 in
theorem e_M_isEdge {l : Launch} {a1 : Int32} {a2 : Int32} {a3 : Int32} {a4 : Int32} {M : Mm} {r : Bool}  (h : m_M_isEdge a1 a2 a3 a4 M = some r) : Ev l X_M_isEdge [vr 8 0, vi a1, vi a2, vi a3, vi a4] M (fun v M2 => v = (some (vi (bI r))) ∧ M2 = M) := by
  refine Ev.of mk_M_isEdge [(0, vr 8 0), (1, vi a1), (2, vi a2), (3, vi a3), (4, vi a4)] (fun _ => rfl) (fun _ => (Nat.le_of_ble_eq_true rfl)) ?_
  unfold m_M_isEdge at h
  refine go_iload_n 0 rfl 1 rfl rfl ?_
  refine go_bipush 6 1 rfl (by decide) ?_
  obtain ⟨r1, c, h⟩ := bd_inv h
  refine go_callS1 _ 2 rfl (e_M_out c) mk_M_out cs_M_45 rfl ⟨(Nat.le_of_ble_eq_true rfl), (Nat.le_of_ble_eq_true rfl)⟩ (Nat.le_of_ble_eq_true rfl) rfl ?_
  refine go_if_ne 48 3 rfl (by decide) (fun c => ?_) (fun c => ?_)
  · replace h := ite_f c h
    refine go_iconst 0 24 rfl (by decide) ?_
    cases h
    exact go_ireturn 25 rfl rfl rfl ⟨rfl, rfl⟩
  · replace h := ite_t c h
    refine go_iload_n 4 rfl 2 rfl rfl ?_
    refine go_aload_n 5 rfl 0 rfl rfl ?_
    refine go_getfield 3 _ 6 rfl (by first | decide | exact ok0 (by omega) | exact ok1 (by omega) | exact ok2 (by omega) | exact ok7 (by omega)) rfl fg_M_16 rfl ?_
    refine go_iload_n 7 rfl 1 rfl rfl ?_
    obtain ⟨c, h⟩ := ck_inv h
    refine go_iaload 8 rfl (by first | decide | exact ok0 (by omega) | exact ok1 (by omega) | exact ok2 (by omega) | exact ok7 (by omega)) (inb_vp c) ?_
    obtain ⟨r2, c, h⟩ := bd_inv h
    refine go_callS1 _ 9 rfl (e_M_out c) mk_M_out cs_M_45 rfl ⟨(Nat.le_of_ble_eq_true rfl), (Nat.le_of_ble_eq_true rfl)⟩ (Nat.le_of_ble_eq_true rfl) rfl ?_
    refine go_if_ne 48 10 rfl (by decide) (fun c => ?_) (fun c => ?_)
    · replace h := ite_f c h
      refine go_iconst 0 24 rfl (by decide) ?_
      cases h
      exact go_ireturn 25 rfl rfl rfl ⟨rfl, rfl⟩
    · replace h := ite_t c h
      refine go_iload 11 rfl 4 rfl ?_
      refine go_aload_n 12 rfl 0 rfl rfl ?_
      refine go_getfield 3 _ 13 rfl (by first | decide | exact ok0 (by omega) | exact ok1 (by omega) | exact ok2 (by omega) | exact ok7 (by omega)) rfl fg_M_16 rfl ?_
      refine go_iload_n 14 rfl 1 rfl rfl ?_
      obtain ⟨c, h⟩ := ck_inv h
      refine go_iaload 15 rfl (by first | decide | exact ok0 (by omega) | exact ok1 (by omega) | exact ok2 (by omega) | exact ok7 (by omega)) (inb_vp c) ?_
      obtain ⟨r3, c, h⟩ := bd_inv h
      refine go_callS1 _ 16 rfl (e_M_out c) mk_M_out cs_M_45 rfl ⟨(Nat.le_of_ble_eq_true rfl), (Nat.le_of_ble_eq_true rfl)⟩ (Nat.le_of_ble_eq_true rfl) rfl ?_
      refine go_if_ne 48 17 rfl (by decide) (fun c => ?_) (fun c => ?_)
      · replace h := ite_f c h
        refine go_iconst 0 24 rfl (by decide) ?_
        cases h
        exact go_ireturn 25 rfl rfl rfl ⟨rfl, rfl⟩
      · replace h := ite_t c h
        refine go_iload_n 18 rfl 3 rfl rfl ?_
        refine go_iconst 2 19 rfl (by decide) ?_
        obtain ⟨r4, c, h⟩ := bd_inv h
        refine go_callS1 _ 20 rfl (e_M_out c) mk_M_out cs_M_45 rfl ⟨(Nat.le_of_ble_eq_true rfl), (Nat.le_of_ble_eq_true rfl)⟩ (Nat.le_of_ble_eq_true rfl) rfl ?_
        refine go_if_ne 48 21 rfl (by decide) (fun c => ?_) (fun c => ?_)
        · replace h := ite_f c h
          refine go_iconst 0 24 rfl (by decide) ?_
          cases h
          exact go_ireturn 25 rfl rfl rfl ⟨rfl, rfl⟩
        · replace h := ite_t c h
          refine go_iconst 1 22 rfl (by decide) ?_
          refine go_goto 49 23 rfl (by decide) ?_
          cases h
          exact go_ireturn 25 rfl rfl rfl ⟨rfl, rfl⟩
def X_M_edge : MX := (⟨"OmegaDeskModel", "edge", "(IIII)Z"⟩, prog_8_method_8_code, 7, some .boolean, { frames := 2, cells := 0, slots := 0, locals := 45 },
  [(0, .aload_n 0, 1), (1, .aload_n 0, 2), (2, .iload_n 1, 3), (3, .iload_n 2, 4), (4, .iload_n 3, 5), (5, .iload 4, 7), (7, .invokevirtual 53, 10), (10, .ifCond .eq 7, 13), (13, .iconst 0, 14), (14, .goto 4, 17), (17, .iconst 1, 18), (18, .putfield 41, 21), (21, .aload_n 0, 22), (22, .getfield 41, 25), (25, .ifCond .le 5, 28), (28, .iconst 0, 29), (29, .ireturn, 30), (30, .bipush 8, 32), (32, .iload_n 1, 33), (33, .imul, 34), (34, .iconst 4, 35), (35, .iload_n 3, 36), (36, .imul, 37), (37, .iadd, 38), (38, .iload_n 2, 39), (39, .iadd, 40), (40, .istore 5, 42), (42, .aload_n 0, 43), (43, .getfield 7, 46), (46, .iload 5, 48), (48, .iaload, 49), (49, .iload 4, 51), (51, .ishr, 52), (52, .iconst 1, 53), (53, .iand, 54), (54, .iconst 1, 55), (55, .if_icmp .ne 7, 58), (58, .iconst 1, 59), (59, .goto 4, 62), (62, .iconst 0, 63), (63, .istore 6, 65), (65, .aload_n 0, 66), (66, .getfield 7, 69), (69, .iload 5, 71), (71, .aload_n 0, 72), (72, .getfield 7, 75), (75, .iload 5, 77), (77, .iaload, 78), (78, .iconst 1, 79), (79, .iload 4, 81), (81, .ishl, 82), (82, .ior, 83), (83, .iastore, 84), (84, .iload 6, 86), (86, .ifCond .ne 7, 89), (89, .iconst 1, 90), (90, .goto 4, 93), (93, .iconst 0, 94), (94, .ireturn, 95)])
set_option maxRecDepth 20000 in
theorem mk_M_edge : Mk X_M_edge := ⟨by unfold TBk; decide +kernel, by decide +kernel, wb_581, ⟨by decide, by decide⟩, rfl, rfl, wb_6⟩
theorem cv_M_53 : CV "OmegaDeskModel" 53 X_M_isEdge 4 8 := ⟨Or.inl wb_582, ⟨wb_584, ws_M_isEdge⟩, by decide +kernel, F_M, 12, rfl⟩
def m_M_edge (a1 : Int32) (a2 : Int32) (a3 : Int32) (a4 : Int32) (M : Mm) : Option (Bool × Mm) :=
  bd (m_M_isEdge a1 a2 a3 a4 M) fun r1 =>
  if (bI r1) = 0 then
    bd (some (uI M (8, 0) 0 (1 : Int32))) fun M2 =>
    if (M2.1 (8, 0) 0) ≤ 0 then
      bd (some ((((8 : Int32) * a1) + ((4 : Int32) * a3)) + a2)) fun x3 =>
      ck (inb x3 (lenI 16)) <|
      if (((M2.1 (1, 16) x3.toNatClampNeg) >>> (a4 &&& 31)) &&& (1 : Int32)) = (1 : Int32) then
        ck (inb x3 (lenI 16)) <|
        ck (inb x3 (lenI 16)) <|
        bd (some (uI M2 (1, 16) x3.toNatClampNeg ((M2.1 (1, 16) x3.toNatClampNeg) ||| ((1 : Int32) <<< (a4 &&& 31))))) fun M5 =>
        some (false, M5)
      else
        ck (inb x3 (lenI 16)) <|
        ck (inb x3 (lenI 16)) <|
        bd (some (uI M2 (1, 16) x3.toNatClampNeg ((M2.1 (1, 16) x3.toNatClampNeg) ||| ((1 : Int32) <<< (a4 &&& 31))))) fun M4 =>
        some (true, M4)
    else
      some (false, M2)
  else
    bd (some (uI M (8, 0) 0 (0 : Int32))) fun M6 =>
    if (M6.1 (8, 0) 0) ≤ 0 then
      bd (some ((((8 : Int32) * a1) + ((4 : Int32) * a3)) + a2)) fun x7 =>
      ck (inb x7 (lenI 16)) <|
      if (((M6.1 (1, 16) x7.toNatClampNeg) >>> (a4 &&& 31)) &&& (1 : Int32)) = (1 : Int32) then
        ck (inb x7 (lenI 16)) <|
        ck (inb x7 (lenI 16)) <|
        bd (some (uI M6 (1, 16) x7.toNatClampNeg ((M6.1 (1, 16) x7.toNatClampNeg) ||| ((1 : Int32) <<< (a4 &&& 31))))) fun M9 =>
        some (false, M9)
      else
        ck (inb x7 (lenI 16)) <|
        ck (inb x7 (lenI 16)) <|
        bd (some (uI M6 (1, 16) x7.toNatClampNeg ((M6.1 (1, 16) x7.toNatClampNeg) ||| ((1 : Int32) <<< (a4 &&& 31))))) fun M8 =>
        some (true, M8)
    else
      some (false, M6)
set_option maxRecDepth 20000 in
theorem e_M_edge {l : Launch} {a1 : Int32} {a2 : Int32} {a3 : Int32} {a4 : Int32} {M : Mm} {r : Bool × Mm}  (h : m_M_edge a1 a2 a3 a4 M = some r) : Ev l X_M_edge [vr 8 0, vi a1, vi a2, vi a3, vi a4] M (fun v M2 => v = (some (vi (bI r.1))) ∧ M2 = r.2) := by
  refine Ev.of mk_M_edge [(0, vr 8 0), (1, vi a1), (2, vi a2), (3, vi a3), (4, vi a4)] (fun _ => rfl) (fun _ => (Nat.le_of_ble_eq_true rfl)) ?_
  unfold m_M_edge at h
  refine go_aload_n 0 rfl 0 rfl rfl ?_
  refine go_aload_n 1 rfl 0 rfl rfl ?_
  refine go_iload_n 2 rfl 1 rfl rfl ?_
  refine go_iload_n 3 rfl 2 rfl rfl ?_
  refine go_iload_n 4 rfl 3 rfl rfl ?_
  refine go_iload 5 rfl 4 rfl ?_
  obtain ⟨r1, c, h⟩ := bd_inv h
  refine go_callV1 _ 6 rfl (e_M_isEdge c) mk_M_isEdge (by first | decide | exact ok0 (by omega) | exact ok1 (by omega) | exact ok2 (by omega) | exact ok7 (by omega)) rfl cv_M_53 rfl ⟨(Nat.le_of_ble_eq_true rfl), (Nat.le_of_ble_eq_true rfl)⟩ (Nat.le_of_ble_eq_true rfl) rfl ?_
  refine go_if_eq 17 7 rfl (by decide) (fun c => ?_) (fun c => ?_)
  · replace h := ite_t c h
    refine go_iconst 1 10 rfl (by decide) ?_
    refine go_putfield 0 .int 11 rfl (by first | decide | exact ok0 (by omega) | exact ok1 (by omega) | exact ok2 (by omega) | exact ok7 (by omega)) rfl fp_M_41 rfl rfl (Nat.le_of_ble_eq_true rfl) rfl ?_
    obtain ⟨_, c, h⟩ := bd_inv h
    cases c
    refine go_aload_n 12 rfl 0 rfl rfl ?_
    refine go_getfield 0 _ 13 rfl (by first | decide | exact ok0 (by omega) | exact ok1 (by omega) | exact ok2 (by omega) | exact ok7 (by omega)) rfl fg_M_41 rfl ?_
    refine go_if_le 30 14 rfl (by decide) (fun c => ?_) (fun c => ?_)
    · replace h := ite_t c h
      refine go_bipush 8 17 rfl (by decide) ?_
      refine go_iload_n 18 rfl 1 rfl rfl ?_
      refine go_imul 19 rfl ?_
      refine go_iconst 4 20 rfl (by decide) ?_
      refine go_iload_n 21 rfl 3 rfl rfl ?_
      refine go_imul 22 rfl ?_
      refine go_iadd 23 rfl ?_
      refine go_iload_n 24 rfl 2 rfl rfl ?_
      refine go_iadd 25 rfl ?_
      obtain ⟨_, c, h⟩ := bd_inv h
      cases c
      refine go_istore 26 rfl (Nat.le_of_ble_eq_true rfl) [(0, _), (1, _), (2, _), (3, _), (4, _), (5, _)] rfl ?_
      refine go_aload_n 27 rfl 0 rfl rfl ?_
      refine go_getfield 1 _ 28 rfl (by first | decide | exact ok0 (by omega) | exact ok1 (by omega) | exact ok2 (by omega) | exact ok7 (by omega)) rfl fg_M_7 rfl ?_
      refine go_iload 29 rfl 5 rfl ?_
      obtain ⟨c, h⟩ := ck_inv h
      refine go_iaload 30 rfl (by first | decide | exact ok0 (by omega) | exact ok1 (by omega) | exact ok2 (by omega) | exact ok7 (by omega)) (inb_vp c) ?_
      refine go_iload 31 rfl 4 rfl ?_
      refine go_ishr 32 rfl ?_
      refine go_iconst 1 33 rfl (by decide) ?_
      refine go_iand 34 rfl ?_
      refine go_iconst 1 35 rfl (by decide) ?_
      refine go_icmp_ne 62 36 rfl (by decide) (fun c => ?_) (fun c => ?_)
      · replace h := ite_f c h
        refine go_iconst 0 39 rfl (by decide) ?_
        refine go_istore 40 rfl (Nat.le_of_ble_eq_true rfl) [(0, _), (1, _), (2, _), (3, _), (4, _), (5, _), (6, _)] rfl ?_
        refine go_aload_n 41 rfl 0 rfl rfl ?_
        refine go_getfield 1 _ 42 rfl (by first | decide | exact ok0 (by omega) | exact ok1 (by omega) | exact ok2 (by omega) | exact ok7 (by omega)) rfl fg_M_7 rfl ?_
        refine go_iload 43 rfl 5 rfl ?_
        refine go_aload_n 44 rfl 0 rfl rfl ?_
        refine go_getfield 1 _ 45 rfl (by first | decide | exact ok0 (by omega) | exact ok1 (by omega) | exact ok2 (by omega) | exact ok7 (by omega)) rfl fg_M_7 rfl ?_
        refine go_iload 46 rfl 5 rfl ?_
        obtain ⟨c, h⟩ := ck_inv h
        refine go_iaload 47 rfl (by first | decide | exact ok0 (by omega) | exact ok1 (by omega) | exact ok2 (by omega) | exact ok7 (by omega)) (inb_vp c) ?_
        refine go_iconst 1 48 rfl (by decide) ?_
        refine go_iload 49 rfl 4 rfl ?_
        refine go_ishl 50 rfl ?_
        refine go_ior 51 rfl ?_
        obtain ⟨c, h⟩ := ck_inv h
        refine go_iastore 52 rfl (by first | decide | exact ok0 (by omega) | exact ok1 (by omega) | exact ok2 (by omega) | exact ok7 (by omega)) (inb_vp c) ?_
        obtain ⟨_, c, h⟩ := bd_inv h
        cases c
        refine go_iload 53 rfl 6 rfl ?_
        refine go_if_ne 93 54 rfl (by decide) (fun c => absurd c (by decide)) (fun _ => ?_)
        refine go_iconst 1 55 rfl (by decide) ?_
        refine go_goto 94 56 rfl (by decide) ?_
        cases h
        exact go_ireturn 58 rfl rfl rfl ⟨rfl, rfl⟩
      · replace h := ite_t c h
        refine go_iconst 1 37 rfl (by decide) ?_
        refine go_goto 63 38 rfl (by decide) ?_
        refine go_istore 40 rfl (Nat.le_of_ble_eq_true rfl) [(0, _), (1, _), (2, _), (3, _), (4, _), (5, _), (6, _)] rfl ?_
        refine go_aload_n 41 rfl 0 rfl rfl ?_
        refine go_getfield 1 _ 42 rfl (by first | decide | exact ok0 (by omega) | exact ok1 (by omega) | exact ok2 (by omega) | exact ok7 (by omega)) rfl fg_M_7 rfl ?_
        refine go_iload 43 rfl 5 rfl ?_
        refine go_aload_n 44 rfl 0 rfl rfl ?_
        refine go_getfield 1 _ 45 rfl (by first | decide | exact ok0 (by omega) | exact ok1 (by omega) | exact ok2 (by omega) | exact ok7 (by omega)) rfl fg_M_7 rfl ?_
        refine go_iload 46 rfl 5 rfl ?_
        obtain ⟨c, h⟩ := ck_inv h
        refine go_iaload 47 rfl (by first | decide | exact ok0 (by omega) | exact ok1 (by omega) | exact ok2 (by omega) | exact ok7 (by omega)) (inb_vp c) ?_
        refine go_iconst 1 48 rfl (by decide) ?_
        refine go_iload 49 rfl 4 rfl ?_
        refine go_ishl 50 rfl ?_
        refine go_ior 51 rfl ?_
        obtain ⟨c, h⟩ := ck_inv h
        refine go_iastore 52 rfl (by first | decide | exact ok0 (by omega) | exact ok1 (by omega) | exact ok2 (by omega) | exact ok7 (by omega)) (inb_vp c) ?_
        obtain ⟨_, c, h⟩ := bd_inv h
        cases c
        refine go_iload 53 rfl 6 rfl ?_
        refine go_if_ne 93 54 rfl (by decide) (fun _ => ?_) (fun c => absurd c (by decide))
        refine go_iconst 0 57 rfl (by decide) ?_
        cases h
        exact go_ireturn 58 rfl rfl rfl ⟨rfl, rfl⟩
    · replace h := ite_f c h
      refine go_iconst 0 15 rfl (by decide) ?_
      cases h
      exact go_ireturn 16 rfl rfl rfl ⟨rfl, rfl⟩
  · replace h := ite_f c h
    refine go_iconst 0 8 rfl (by decide) ?_
    refine go_goto 18 9 rfl (by decide) ?_
    refine go_putfield 0 .int 11 rfl (by first | decide | exact ok0 (by omega) | exact ok1 (by omega) | exact ok2 (by omega) | exact ok7 (by omega)) rfl fp_M_41 rfl rfl (Nat.le_of_ble_eq_true rfl) rfl ?_
    obtain ⟨_, c, h⟩ := bd_inv h
    cases c
    refine go_aload_n 12 rfl 0 rfl rfl ?_
    refine go_getfield 0 _ 13 rfl (by first | decide | exact ok0 (by omega) | exact ok1 (by omega) | exact ok2 (by omega) | exact ok7 (by omega)) rfl fg_M_41 rfl ?_
    refine go_if_le 30 14 rfl (by decide) (fun c => ?_) (fun c => ?_)
    · replace h := ite_t c h
      refine go_bipush 8 17 rfl (by decide) ?_
      refine go_iload_n 18 rfl 1 rfl rfl ?_
      refine go_imul 19 rfl ?_
      refine go_iconst 4 20 rfl (by decide) ?_
      refine go_iload_n 21 rfl 3 rfl rfl ?_
      refine go_imul 22 rfl ?_
      refine go_iadd 23 rfl ?_
      refine go_iload_n 24 rfl 2 rfl rfl ?_
      refine go_iadd 25 rfl ?_
      obtain ⟨_, c, h⟩ := bd_inv h
      cases c
      refine go_istore 26 rfl (Nat.le_of_ble_eq_true rfl) [(0, _), (1, _), (2, _), (3, _), (4, _), (5, _)] rfl ?_
      refine go_aload_n 27 rfl 0 rfl rfl ?_
      refine go_getfield 1 _ 28 rfl (by first | decide | exact ok0 (by omega) | exact ok1 (by omega) | exact ok2 (by omega) | exact ok7 (by omega)) rfl fg_M_7 rfl ?_
      refine go_iload 29 rfl 5 rfl ?_
      obtain ⟨c, h⟩ := ck_inv h
      refine go_iaload 30 rfl (by first | decide | exact ok0 (by omega) | exact ok1 (by omega) | exact ok2 (by omega) | exact ok7 (by omega)) (inb_vp c) ?_
      refine go_iload 31 rfl 4 rfl ?_
      refine go_ishr 32 rfl ?_
      refine go_iconst 1 33 rfl (by decide) ?_
      refine go_iand 34 rfl ?_
      refine go_iconst 1 35 rfl (by decide) ?_
      refine go_icmp_ne 62 36 rfl (by decide) (fun c => ?_) (fun c => ?_)
      · replace h := ite_f c h
        refine go_iconst 0 39 rfl (by decide) ?_
        refine go_istore 40 rfl (Nat.le_of_ble_eq_true rfl) [(0, _), (1, _), (2, _), (3, _), (4, _), (5, _), (6, _)] rfl ?_
        refine go_aload_n 41 rfl 0 rfl rfl ?_
        refine go_getfield 1 _ 42 rfl (by first | decide | exact ok0 (by omega) | exact ok1 (by omega) | exact ok2 (by omega) | exact ok7 (by omega)) rfl fg_M_7 rfl ?_
        refine go_iload 43 rfl 5 rfl ?_
        refine go_aload_n 44 rfl 0 rfl rfl ?_
        refine go_getfield 1 _ 45 rfl (by first | decide | exact ok0 (by omega) | exact ok1 (by omega) | exact ok2 (by omega) | exact ok7 (by omega)) rfl fg_M_7 rfl ?_
        refine go_iload 46 rfl 5 rfl ?_
        obtain ⟨c, h⟩ := ck_inv h
        refine go_iaload 47 rfl (by first | decide | exact ok0 (by omega) | exact ok1 (by omega) | exact ok2 (by omega) | exact ok7 (by omega)) (inb_vp c) ?_
        refine go_iconst 1 48 rfl (by decide) ?_
        refine go_iload 49 rfl 4 rfl ?_
        refine go_ishl 50 rfl ?_
        refine go_ior 51 rfl ?_
        obtain ⟨c, h⟩ := ck_inv h
        refine go_iastore 52 rfl (by first | decide | exact ok0 (by omega) | exact ok1 (by omega) | exact ok2 (by omega) | exact ok7 (by omega)) (inb_vp c) ?_
        obtain ⟨_, c, h⟩ := bd_inv h
        cases c
        refine go_iload 53 rfl 6 rfl ?_
        refine go_if_ne 93 54 rfl (by decide) (fun c => absurd c (by decide)) (fun _ => ?_)
        refine go_iconst 1 55 rfl (by decide) ?_
        refine go_goto 94 56 rfl (by decide) ?_
        cases h
        exact go_ireturn 58 rfl rfl rfl ⟨rfl, rfl⟩
      · replace h := ite_t c h
        refine go_iconst 1 37 rfl (by decide) ?_
        refine go_goto 63 38 rfl (by decide) ?_
        refine go_istore 40 rfl (Nat.le_of_ble_eq_true rfl) [(0, _), (1, _), (2, _), (3, _), (4, _), (5, _), (6, _)] rfl ?_
        refine go_aload_n 41 rfl 0 rfl rfl ?_
        refine go_getfield 1 _ 42 rfl (by first | decide | exact ok0 (by omega) | exact ok1 (by omega) | exact ok2 (by omega) | exact ok7 (by omega)) rfl fg_M_7 rfl ?_
        refine go_iload 43 rfl 5 rfl ?_
        refine go_aload_n 44 rfl 0 rfl rfl ?_
        refine go_getfield 1 _ 45 rfl (by first | decide | exact ok0 (by omega) | exact ok1 (by omega) | exact ok2 (by omega) | exact ok7 (by omega)) rfl fg_M_7 rfl ?_
        refine go_iload 46 rfl 5 rfl ?_
        obtain ⟨c, h⟩ := ck_inv h
        refine go_iaload 47 rfl (by first | decide | exact ok0 (by omega) | exact ok1 (by omega) | exact ok2 (by omega) | exact ok7 (by omega)) (inb_vp c) ?_
        refine go_iconst 1 48 rfl (by decide) ?_
        refine go_iload 49 rfl 4 rfl ?_
        refine go_ishl 50 rfl ?_
        refine go_ior 51 rfl ?_
        obtain ⟨c, h⟩ := ck_inv h
        refine go_iastore 52 rfl (by first | decide | exact ok0 (by omega) | exact ok1 (by omega) | exact ok2 (by omega) | exact ok7 (by omega)) (inb_vp c) ?_
        obtain ⟨_, c, h⟩ := bd_inv h
        cases c
        refine go_iload 53 rfl 6 rfl ?_
        refine go_if_ne 93 54 rfl (by decide) (fun _ => ?_) (fun c => absurd c (by decide))
        refine go_iconst 0 57 rfl (by decide) ?_
        cases h
        exact go_ireturn 58 rfl rfl rfl ⟨rfl, rfl⟩
    · replace h := ite_f c h
      refine go_iconst 0 15 rfl (by decide) ?_
      cases h
      exact go_ireturn 16 rfl rfl rfl ⟨rfl, rfl⟩
def X_M_clear : MX := (⟨"OmegaDeskModel", "clear", "(I)V"⟩, prog_8_method_9_code, 2, none, { frames := 1, cells := 0, slots := 0, locals := 21 },
  [(0, .aload_n 0, 1), (1, .iload_n 1, 2), (2, .bipush 6, 4), (4, .invokestatic 45, 7), (7, .ifCond .eq 7, 10), (10, .iconst 1, 11), (11, .goto 4, 14), (14, .iconst 0, 15), (15, .putfield 41, 18), (18, .aload_n 0, 19), (19, .getfield 41, 22), (22, .ifCond .ne 10, 25), (25, .aload_n 0, 26), (26, .getfield 16, 29), (29, .iload_n 1, 30), (30, .iconst 0, 31), (31, .iastore, 32), (32, .return_, 33)])
set_option maxRecDepth 20000 in
theorem mk_M_clear : Mk X_M_clear := ⟨by unfold TBk; decide +kernel, by decide +kernel, wb_589, ⟨by decide, by decide⟩, rfl, rfl, wb_6⟩
def m_M_clear (a1 : Int32) (M : Mm) : Option (Mm) :=
  bd (m_M_out a1 (6 : Int32)) fun r1 =>
  if (bI r1) = 0 then
    bd (some (uI M (8, 0) 0 (0 : Int32))) fun M2 =>
    if (M2.1 (8, 0) 0) = 0 then
      ck (inb a1 (lenI 18)) <|
      bd (some (uI M2 (1, 18) a1.toNatClampNeg (0 : Int32))) fun M3 =>
      some M3
    else
      some M2
  else
    bd (some (uI M (8, 0) 0 (1 : Int32))) fun M4 =>
    if (M4.1 (8, 0) 0) = 0 then
      ck (inb a1 (lenI 18)) <|
      bd (some (uI M4 (1, 18) a1.toNatClampNeg (0 : Int32))) fun M5 =>
      some M5
    else
      some M4
set_option maxRecDepth 20000 in
theorem e_M_clear {l : Launch} {a1 : Int32} {M : Mm} {r : Mm}  (h : m_M_clear a1 M = some r) : Ev l X_M_clear [vr 8 0, vi a1] M (fun v M2 => v = none ∧ M2 = r) := by
  refine Ev.of mk_M_clear [(0, vr 8 0), (1, vi a1)] (fun _ => rfl) (fun _ => (Nat.le_of_ble_eq_true rfl)) ?_
  unfold m_M_clear at h
  refine go_aload_n 0 rfl 0 rfl rfl ?_
  refine go_iload_n 1 rfl 1 rfl rfl ?_
  refine go_bipush 6 2 rfl (by decide) ?_
  obtain ⟨r1, c, h⟩ := bd_inv h
  refine go_callS1 _ 3 rfl (e_M_out c) mk_M_out cs_M_45 rfl ⟨(Nat.le_of_ble_eq_true rfl), (Nat.le_of_ble_eq_true rfl)⟩ (Nat.le_of_ble_eq_true rfl) rfl ?_
  refine go_if_eq 14 4 rfl (by decide) (fun c => ?_) (fun c => ?_)
  · replace h := ite_t c h
    refine go_iconst 0 7 rfl (by decide) ?_
    refine go_putfield 0 .int 8 rfl (by first | decide | exact ok0 (by omega) | exact ok1 (by omega) | exact ok2 (by omega) | exact ok7 (by omega)) rfl fp_M_41 rfl rfl (Nat.le_of_ble_eq_true rfl) rfl ?_
    obtain ⟨_, c, h⟩ := bd_inv h
    cases c
    refine go_aload_n 9 rfl 0 rfl rfl ?_
    refine go_getfield 0 _ 10 rfl (by first | decide | exact ok0 (by omega) | exact ok1 (by omega) | exact ok2 (by omega) | exact ok7 (by omega)) rfl fg_M_41 rfl ?_
    refine go_if_ne 32 11 rfl (by decide) (fun c => ?_) (fun c => ?_)
    · replace h := ite_f c h
      cases h
      exact go_return 17 rfl rfl ⟨rfl, rfl⟩
    · replace h := ite_t c h
      refine go_aload_n 12 rfl 0 rfl rfl ?_
      refine go_getfield 3 _ 13 rfl (by first | decide | exact ok0 (by omega) | exact ok1 (by omega) | exact ok2 (by omega) | exact ok7 (by omega)) rfl fg_M_16 rfl ?_
      refine go_iload_n 14 rfl 1 rfl rfl ?_
      refine go_iconst 0 15 rfl (by decide) ?_
      obtain ⟨c, h⟩ := ck_inv h
      refine go_iastore 16 rfl (by first | decide | exact ok0 (by omega) | exact ok1 (by omega) | exact ok2 (by omega) | exact ok7 (by omega)) (inb_vp c) ?_
      obtain ⟨_, c, h⟩ := bd_inv h
      cases c
      cases h
      exact go_return 17 rfl rfl ⟨rfl, rfl⟩
  · replace h := ite_f c h
    refine go_iconst 1 5 rfl (by decide) ?_
    refine go_goto 15 6 rfl (by decide) ?_
    refine go_putfield 0 .int 8 rfl (by first | decide | exact ok0 (by omega) | exact ok1 (by omega) | exact ok2 (by omega) | exact ok7 (by omega)) rfl fp_M_41 rfl rfl (Nat.le_of_ble_eq_true rfl) rfl ?_
    obtain ⟨_, c, h⟩ := bd_inv h
    cases c
    refine go_aload_n 9 rfl 0 rfl rfl ?_
    refine go_getfield 0 _ 10 rfl (by first | decide | exact ok0 (by omega) | exact ok1 (by omega) | exact ok2 (by omega) | exact ok7 (by omega)) rfl fg_M_41 rfl ?_
    refine go_if_ne 32 11 rfl (by decide) (fun c => ?_) (fun c => ?_)
    · replace h := ite_f c h
      cases h
      exact go_return 17 rfl rfl ⟨rfl, rfl⟩
    · replace h := ite_t c h
      refine go_aload_n 12 rfl 0 rfl rfl ?_
      refine go_getfield 3 _ 13 rfl (by first | decide | exact ok0 (by omega) | exact ok1 (by omega) | exact ok2 (by omega) | exact ok7 (by omega)) rfl fg_M_16 rfl ?_
      refine go_iload_n 14 rfl 1 rfl rfl ?_
      refine go_iconst 0 15 rfl (by decide) ?_
      obtain ⟨c, h⟩ := ck_inv h
      refine go_iastore 16 rfl (by first | decide | exact ok0 (by omega) | exact ok1 (by omega) | exact ok2 (by omega) | exact ok7 (by omega)) (inb_vp c) ?_
      obtain ⟨_, c, h⟩ := bd_inv h
      cases c
      cases h
      exact go_return 17 rfl rfl ⟨rfl, rfl⟩
def X_M_append : MX := (⟨"OmegaDeskModel", "append", "(II)V"⟩, prog_8_method_10_code, 7, none, { frames := 1, cells := 0, slots := 0, locals := 22 },
  [(0, .aload_n 0, 1), (1, .getfield 16, 4), (4, .iload_n 2, 5), (5, .iaload, 6), (6, .istore_n 3, 7), (7, .iconst 0, 8), (8, .istore 4, 10), (10, .iload 4, 12), (12, .aload_n 0, 13), (13, .getfield 16, 16), (16, .iload_n 1, 17), (17, .iaload, 18), (18, .if_icmp .ge 127, 21), (21, .aload_n 0, 22), (22, .iload_n 2, 23), (23, .aload_n 0, 24), (24, .getfield 13, 27), (27, .iload_n 1, 28), (28, .iaload, 29), (29, .iload 4, 31), (31, .ishr, 32), (32, .iconst 1, 33), (33, .iand, 34), (34, .iconst 1, 35), (35, .if_icmp .ne 7, 38), (38, .iconst 1, 39), (39, .goto 4, 42), (42, .iconst 0, 43), (43, .invokevirtual 49, 46), (46, .iconst 0, 47), (47, .istore 5, 49), (49, .iload 5, 51), (51, .iconst 2, 52), (52, .if_icmp .ge 87, 55), (55, .aload_n 0, 56), (56, .getfield 7, 59), (59, .bipush 8, 61), (61, .iload_n 1, 62), (62, .imul, 63), (63, .iconst 4, 64), (64, .iload 5, 66), (66, .imul, 67), (67, .iadd, 68), (68, .iload 4, 70), (70, .iadd, 71), (71, .iaload, 72), (72, .iload_n 3, 73), (73, .ishl, 74), (74, .istore 6, 76), (76, .aload_n 0, 77), (77, .getfield 7, 80), (80, .bipush 8, 82), (82, .iload_n 2, 83), (83, .imul, 84), (84, .iconst 4, 85), (85, .iload 5, 87), (87, .imul, 88), (88, .iadd, 89), (89, .iload_n 3, 90), (90, .iadd, 91), (91, .iload 4, 93), (93, .iadd, 94), (94, .iload 6, 96), (96, .iastore, 97), (97, .iload 4, 99), (99, .ifCond .ne 34, 102), (102, .aload_n 0, 103), (103, .getfield 7, 106), (106, .bipush 8, 108), (108, .iload_n 2, 109), (109, .imul, 110), (110, .iconst 4, 111), (111, .iload 5, 113), (113, .imul, 114), (114, .iadd, 115), (115, .aload_n 0, 116), (116, .getfield 7, 119), (119, .bipush 8, 121), (121, .iload_n 2, 122), (122, .imul, 123), (123, .iconst 4, 124), (124, .iload 5, 126), (126, .imul, 127), (127, .iadd, 128), (128, .iaload, 129), (129, .iload 6, 131), (131, .ior, 132), (132, .iastore, 133), (133, .iinc 5 1, 136), (136, .goto (-87), 139), (139, .iinc 4 1, 142), (142, .goto (-132), 145), (145, .return_, 146)])
set_option maxRecDepth 20000 in
theorem mk_M_append : Mk X_M_append := ⟨by unfold TBk; decide +kernel, by decide +kernel, wb_597, ⟨by decide, by decide⟩, rfl, rfl, wb_6⟩
def b_M_append_49 (c1 : Int32) (c2 : Int32) (c3 : Int32) (c4 : Int32) (s : Int32 × Mm) : Option ((Int32 × Mm) ⊕ (Int32 × Mm)) :=
  if (2 : Int32) ≤ s.1 then
    some (Sum.inr (s.1, s.2))
  else
    ck (inb ((((8 : Int32) * c1) + ((4 : Int32) * s.1)) + c4) (lenI 16)) <|
    bd (some ((s.2.1 (1, 16) ((((8 : Int32) * c1) + ((4 : Int32) * s.1)) + c4).toNatClampNeg) <<< (c3 &&& 31))) fun x2 =>
    ck (inb (((((8 : Int32) * c2) + ((4 : Int32) * s.1)) + c3) + c4) (lenI 16)) <|
    bd (some (uI s.2 (1, 16) (((((8 : Int32) * c2) + ((4 : Int32) * s.1)) + c3) + c4).toNatClampNeg x2)) fun M3 =>
    if c4 = 0 then
      ck (inb (((8 : Int32) * c2) + ((4 : Int32) * s.1)) (lenI 16)) <|
      ck (inb (((8 : Int32) * c2) + ((4 : Int32) * s.1)) (lenI 16)) <|
      bd (some (uI M3 (1, 16) (((8 : Int32) * c2) + ((4 : Int32) * s.1)).toNatClampNeg ((M3.1 (1, 16) (((8 : Int32) * c2) + ((4 : Int32) * s.1)).toNatClampNeg) ||| x2))) fun M4 =>
      some (Sum.inl ((s.1 + 1), M4))
    else
      some (Sum.inl ((s.1 + 1), M3))
def b_M_append_10 (c1 : Int32) (c2 : Int32) (c3 : Int32) (s : Int32 × Mm) : Option ((Int32 × Mm) ⊕ (Int32 × Mm)) :=
  ck (inb c1 (lenI 18)) <|
  if (s.2.1 (1, 18) c1.toNatClampNeg) ≤ s.1 then
    some (Sum.inr (s.1, s.2))
  else
    ck (inb c1 (lenI 17)) <|
    if (((s.2.1 (1, 17) c1.toNatClampNeg) >>> (s.1 &&& 31)) &&& (1 : Int32)) = (1 : Int32) then
      bd (m_M_add c2 true s.2) fun r6 =>
      bd (lp (b_M_append_49 c1 c2 c3 s.1) ((0 : Int32), r6)) fun r7 =>
      some (Sum.inl ((s.1 + 1), r7.2))
    else
      bd (m_M_add c2 false s.2) fun r1 =>
      bd (lp (b_M_append_49 c1 c2 c3 s.1) ((0 : Int32), r1)) fun r5 =>
      some (Sum.inl ((s.1 + 1), r5.2))
def m_M_append (a1 : Int32) (a2 : Int32) (M : Mm) : Option (Mm) :=
  ck (inb a2 (lenI 18)) <|
  bd (lp (b_M_append_10 a1 a2 (M.1 (1, 18) a2.toNatClampNeg)) ((0 : Int32), M)) fun r8 =>
  some r8.2
set_option maxRecDepth 20000 in
theorem w_M_append_49 {l : Launch} {post : Option PV → Mm → Prop} (c1 : Int32) (c2 : Int32) (c3 : Int32) (c4 : Int32)  {r : Int32 × Mm} (kk : Go l X_M_append post 139 [(0, vr 8 0), (1, vi c1), (2, vi c2), (3, vi c3), (4, vi c4), (5, vi r.1)] [] r.2) : ∀ (n : Nat) (s : Int32 × Mm), lpN (b_M_append_49 c1 c2 c3 c4) n s = some r → Go l X_M_append post 49 [(0, vr 8 0), (1, vi c1), (2, vi c2), (3, vi c3), (4, vi c4), (5, vi s.1)] [] s.2 := by
  intro n
  induction n with
  | zero => intro s hc; exact (lpN_0 hc).elim
  | succ n ih =>
    intro s hc
    obtain ⟨q, h, hc⟩ := lpN_inv hc
    unfold b_M_append_49 at h
    refine go_iload 31 rfl 5 rfl ?_
    refine go_iconst 2 32 rfl (by decide) ?_
    refine go_icmp_ge 139 33 rfl (by decide) (fun c => ?_) (fun c => ?_)
    · replace h := ite_t c h
      cases h
      obtain rfl := lpq_r hc
      exact kk
    · replace h := ite_f c h
      refine go_aload_n 34 rfl 0 rfl rfl ?_
      refine go_getfield 1 _ 35 rfl (by first | decide | exact ok0 (by omega) | exact ok1 (by omega) | exact ok2 (by omega) | exact ok7 (by omega)) rfl fg_M_7 rfl ?_
      refine go_bipush 8 36 rfl (by decide) ?_
      refine go_iload_n 37 rfl 1 rfl rfl ?_
      refine go_imul 38 rfl ?_
      refine go_iconst 4 39 rfl (by decide) ?_
      refine go_iload 40 rfl 5 rfl ?_
      refine go_imul 41 rfl ?_
      refine go_iadd 42 rfl ?_
      refine go_iload 43 rfl 4 rfl ?_
      refine go_iadd 44 rfl ?_
      obtain ⟨c, h⟩ := ck_inv h
      refine go_iaload 45 rfl (by first | decide | exact ok0 (by omega) | exact ok1 (by omega) | exact ok2 (by omega) | exact ok7 (by omega)) (inb_vp c) ?_
      refine go_iload_n 46 rfl 3 rfl rfl ?_
      refine go_ishl 47 rfl ?_
      obtain ⟨_, c, h⟩ := bd_inv h
      cases c
      refine go_istore 48 rfl (Nat.le_of_ble_eq_true rfl) [(0, _), (1, _), (2, _), (3, _), (4, _), (5, _), (6, _)] rfl ?_
      refine go_aload_n 49 rfl 0 rfl rfl ?_
      refine go_getfield 1 _ 50 rfl (by first | decide | exact ok0 (by omega) | exact ok1 (by omega) | exact ok2 (by omega) | exact ok7 (by omega)) rfl fg_M_7 rfl ?_
      refine go_bipush 8 51 rfl (by decide) ?_
      refine go_iload_n 52 rfl 2 rfl rfl ?_
      refine go_imul 53 rfl ?_
      refine go_iconst 4 54 rfl (by decide) ?_
      refine go_iload 55 rfl 5 rfl ?_
      refine go_imul 56 rfl ?_
      refine go_iadd 57 rfl ?_
      refine go_iload_n 58 rfl 3 rfl rfl ?_
      refine go_iadd 59 rfl ?_
      refine go_iload 60 rfl 4 rfl ?_
      refine go_iadd 61 rfl ?_
      refine go_iload 62 rfl 6 rfl ?_
      obtain ⟨c, h⟩ := ck_inv h
      refine go_iastore 63 rfl (by first | decide | exact ok0 (by omega) | exact ok1 (by omega) | exact ok2 (by omega) | exact ok7 (by omega)) (inb_vp c) ?_
      obtain ⟨_, c, h⟩ := bd_inv h
      cases c
      refine go_iload 64 rfl 4 rfl ?_
      refine go_if_ne 133 65 rfl (by decide) (fun c => ?_) (fun c => ?_)
      · replace h := ite_f c h
        refine go_iinc 1 88 rfl 5 rfl (by decide) (Nat.le_of_ble_eq_true rfl) [(0, _), (1, _), (2, _), (3, _), (4, _), (5, _), (6, _)] rfl ?_
        refine go_goto 49 89 rfl (by decide) ?_
        cases h
        refine go_sub [0, 1, 2, 3, 4, 5] rfl ?_
        have g9 := ih _ hc
        exact g9
      · replace h := ite_t c h
        refine go_aload_n 66 rfl 0 rfl rfl ?_
        refine go_getfield 1 _ 67 rfl (by first | decide | exact ok0 (by omega) | exact ok1 (by omega) | exact ok2 (by omega) | exact ok7 (by omega)) rfl fg_M_7 rfl ?_
        refine go_bipush 8 68 rfl (by decide) ?_
        refine go_iload_n 69 rfl 2 rfl rfl ?_
        refine go_imul 70 rfl ?_
        refine go_iconst 4 71 rfl (by decide) ?_
        refine go_iload 72 rfl 5 rfl ?_
        refine go_imul 73 rfl ?_
        refine go_iadd 74 rfl ?_
        refine go_aload_n 75 rfl 0 rfl rfl ?_
        refine go_getfield 1 _ 76 rfl (by first | decide | exact ok0 (by omega) | exact ok1 (by omega) | exact ok2 (by omega) | exact ok7 (by omega)) rfl fg_M_7 rfl ?_
        refine go_bipush 8 77 rfl (by decide) ?_
        refine go_iload_n 78 rfl 2 rfl rfl ?_
        refine go_imul 79 rfl ?_
        refine go_iconst 4 80 rfl (by decide) ?_
        refine go_iload 81 rfl 5 rfl ?_
        refine go_imul 82 rfl ?_
        refine go_iadd 83 rfl ?_
        obtain ⟨c, h⟩ := ck_inv h
        refine go_iaload 84 rfl (by first | decide | exact ok0 (by omega) | exact ok1 (by omega) | exact ok2 (by omega) | exact ok7 (by omega)) (inb_vp c) ?_
        refine go_iload 85 rfl 6 rfl ?_
        refine go_ior 86 rfl ?_
        obtain ⟨c, h⟩ := ck_inv h
        refine go_iastore 87 rfl (by first | decide | exact ok0 (by omega) | exact ok1 (by omega) | exact ok2 (by omega) | exact ok7 (by omega)) (inb_vp c) ?_
        obtain ⟨_, c, h⟩ := bd_inv h
        cases c
        refine go_iinc 1 88 rfl 5 rfl (by decide) (Nat.le_of_ble_eq_true rfl) [(0, _), (1, _), (2, _), (3, _), (4, _), (5, _), (6, _)] rfl ?_
        refine go_goto 49 89 rfl (by decide) ?_
        cases h
        refine go_sub [0, 1, 2, 3, 4, 5] rfl ?_
        have g9 := ih _ hc
        exact g9
set_option maxRecDepth 20000 in
theorem w_M_append_10 {l : Launch} {post : Option PV → Mm → Prop} (c1 : Int32) (c2 : Int32) (c3 : Int32)  {r : Int32 × Mm} (kk : Go l X_M_append post 145 [(0, vr 8 0), (1, vi c1), (2, vi c2), (3, vi c3), (4, vi r.1)] [] r.2) : ∀ (n : Nat) (s : Int32 × Mm), lpN (b_M_append_10 c1 c2 c3) n s = some r → Go l X_M_append post 10 [(0, vr 8 0), (1, vi c1), (2, vi c2), (3, vi c3), (4, vi s.1)] [] s.2 := by
  intro n
  induction n with
  | zero => intro s hc; exact (lpN_0 hc).elim
  | succ n ih =>
    intro s hc
    obtain ⟨q, h, hc⟩ := lpN_inv hc
    unfold b_M_append_10 at h
    refine go_iload 7 rfl 4 rfl ?_
    refine go_aload_n 8 rfl 0 rfl rfl ?_
    refine go_getfield 3 _ 9 rfl (by first | decide | exact ok0 (by omega) | exact ok1 (by omega) | exact ok2 (by omega) | exact ok7 (by omega)) rfl fg_M_16 rfl ?_
    refine go_iload_n 10 rfl 1 rfl rfl ?_
    obtain ⟨c, h⟩ := ck_inv h
    refine go_iaload 11 rfl (by first | decide | exact ok0 (by omega) | exact ok1 (by omega) | exact ok2 (by omega) | exact ok7 (by omega)) (inb_vp c) ?_
    refine go_icmp_ge 145 12 rfl (by decide) (fun c => ?_) (fun c => ?_)
    · replace h := ite_t c h
      cases h
      obtain rfl := lpq_r hc
      exact kk
    · replace h := ite_f c h
      refine go_aload_n 13 rfl 0 rfl rfl ?_
      refine go_iload_n 14 rfl 2 rfl rfl ?_
      refine go_aload_n 15 rfl 0 rfl rfl ?_
      refine go_getfield 2 _ 16 rfl (by first | decide | exact ok0 (by omega) | exact ok1 (by omega) | exact ok2 (by omega) | exact ok7 (by omega)) rfl fg_M_13 rfl ?_
      refine go_iload_n 17 rfl 1 rfl rfl ?_
      obtain ⟨c, h⟩ := ck_inv h
      refine go_iaload 18 rfl (by first | decide | exact ok0 (by omega) | exact ok1 (by omega) | exact ok2 (by omega) | exact ok7 (by omega)) (inb_vp c) ?_
      refine go_iload 19 rfl 4 rfl ?_
      refine go_ishr 20 rfl ?_
      refine go_iconst 1 21 rfl (by decide) ?_
      refine go_iand 22 rfl ?_
      refine go_iconst 1 23 rfl (by decide) ?_
      refine go_icmp_ne 42 24 rfl (by decide) (fun c => ?_) (fun c => ?_)
      · replace h := ite_f c h
        refine go_iconst 0 27 rfl (by decide) ?_
        obtain ⟨r1, c, h⟩ := bd_inv h
        refine go_callV1 _ 28 rfl (e_M_add c) mk_M_add (by first | decide | exact ok0 (by omega) | exact ok1 (by omega) | exact ok2 (by omega) | exact ok7 (by omega)) rfl cv_M_49 rfl ⟨(Nat.le_of_ble_eq_true rfl), (Nat.le_of_ble_eq_true rfl)⟩ (Nat.le_of_ble_eq_true rfl) rfl ?_
        refine go_iconst 0 29 rfl (by decide) ?_
        refine go_istore 30 rfl (Nat.le_of_ble_eq_true rfl) [(0, _), (1, _), (2, _), (3, _), (4, _), (5, _)] rfl ?_
        obtain ⟨r5, c, h⟩ := bd_inv h
        refine w_M_append_49 _ _ _ _ ?_ _ _ c
        refine go_iinc 1 90 rfl 4 rfl (by decide) (Nat.le_of_ble_eq_true rfl) [(0, _), (1, _), (2, _), (3, _), (4, _), (5, _)] rfl ?_
        refine go_goto 10 91 rfl (by decide) ?_
        cases h
        refine go_sub [0, 1, 2, 3, 4] rfl ?_
        have g9 := ih _ hc
        exact g9
      · replace h := ite_t c h
        refine go_iconst 1 25 rfl (by decide) ?_
        refine go_goto 43 26 rfl (by decide) ?_
        obtain ⟨r6, c, h⟩ := bd_inv h
        refine go_callV1 _ 28 rfl (e_M_add c) mk_M_add (by first | decide | exact ok0 (by omega) | exact ok1 (by omega) | exact ok2 (by omega) | exact ok7 (by omega)) rfl cv_M_49 rfl ⟨(Nat.le_of_ble_eq_true rfl), (Nat.le_of_ble_eq_true rfl)⟩ (Nat.le_of_ble_eq_true rfl) rfl ?_
        refine go_iconst 0 29 rfl (by decide) ?_
        refine go_istore 30 rfl (Nat.le_of_ble_eq_true rfl) [(0, _), (1, _), (2, _), (3, _), (4, _), (5, _)] rfl ?_
        obtain ⟨r7, c, h⟩ := bd_inv h
        refine w_M_append_49 _ _ _ _ ?_ _ _ c
        refine go_iinc 1 90 rfl 4 rfl (by decide) (Nat.le_of_ble_eq_true rfl) [(0, _), (1, _), (2, _), (3, _), (4, _), (5, _)] rfl ?_
        refine go_goto 10 91 rfl (by decide) ?_
        cases h
        refine go_sub [0, 1, 2, 3, 4] rfl ?_
        have g9 := ih _ hc
        exact g9
set_option maxRecDepth 20000 in
theorem e_M_append {l : Launch} {a1 : Int32} {a2 : Int32} {M : Mm} {r : Mm}  (h : m_M_append a1 a2 M = some r) : Ev l X_M_append [vr 8 0, vi a1, vi a2] M (fun v M2 => v = none ∧ M2 = r) := by
  refine Ev.of mk_M_append [(0, vr 8 0), (1, vi a1), (2, vi a2)] (fun _ => rfl) (fun _ => (Nat.le_of_ble_eq_true rfl)) ?_
  unfold m_M_append at h
  refine go_aload_n 0 rfl 0 rfl rfl ?_
  refine go_getfield 3 _ 1 rfl (by first | decide | exact ok0 (by omega) | exact ok1 (by omega) | exact ok2 (by omega) | exact ok7 (by omega)) rfl fg_M_16 rfl ?_
  refine go_iload_n 2 rfl 2 rfl rfl ?_
  obtain ⟨c, h⟩ := ck_inv h
  refine go_iaload 3 rfl (by first | decide | exact ok0 (by omega) | exact ok1 (by omega) | exact ok2 (by omega) | exact ok7 (by omega)) (inb_vp c) ?_
  refine go_istore_n 4 rfl rfl (Nat.le_of_ble_eq_true rfl) [(0, _), (1, _), (2, _), (3, _)] rfl ?_
  refine go_iconst 0 5 rfl (by decide) ?_
  refine go_istore 6 rfl (Nat.le_of_ble_eq_true rfl) [(0, _), (1, _), (2, _), (3, _), (4, _)] rfl ?_
  obtain ⟨r8, c, h⟩ := bd_inv h
  refine w_M_append_10 _ _ _ ?_ _ _ c
  cases h
  exact go_return 92 rfl rfl ⟨rfl, rfl⟩
