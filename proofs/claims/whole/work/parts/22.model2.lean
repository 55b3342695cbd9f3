def X_M_unite : MX := (⟨"OmegaDeskModel", "unite", "(III)I"⟩, prog_8_method_11_code, 5, some .int, { frames := 2, cells := 0, slots := 0, locals := 48 },
  [(0, .iload_n 1, 1), (1, .bipush 6, 3), (3, .invokestatic 45, 6), (6, .ifCond .ne 40, 9), (9, .iload_n 2, 10), (10, .bipush 6, 12), (12, .invokestatic 45, 15), (15, .ifCond .ne 31, 18), (18, .iload_n 3, 19), (19, .bipush 6, 21), (21, .invokestatic 45, 24), (24, .ifCond .ne 22, 27), (27, .iload_n 1, 28), (28, .iload_n 2, 29), (29, .if_icmp .eq 17, 32), (32, .iload_n 1, 33), (33, .iload_n 3, 34), (34, .if_icmp .eq 12, 37), (37, .iload_n 2, 38), (38, .iload_n 3, 39), (39, .if_icmp .eq 7, 42), (42, .iconst 1, 43), (43, .goto 4, 46), (46, .iconst 0, 47), (47, .istore 4, 49), (49, .aload_n 0, 50), (50, .iload 4, 52), (52, .ifCond .ne 7, 55), (55, .iconst 1, 56), (56, .goto 27, 59), (59, .iconst 1, 60), (60, .aload_n 0, 61), (61, .getfield 16, 64), (64, .iload_n 1, 65), (65, .iaload, 66), (66, .iadd, 67), (67, .aload_n 0, 68), (68, .getfield 16, 71), (71, .iload_n 2, 72), (72, .iaload, 73), (73, .iadd, 74), (74, .iconst 4, 75), (75, .if_icmp .le 7, 78), (78, .iconst 2, 79), (79, .goto 4, 82), (82, .iconst 0, 83), (83, .putfield 41, 86), (86, .aload_n 0, 87), (87, .getfield 41, 90), (90, .ifCond .le 5, 93), (93, .iconst 0, 94), (94, .ireturn, 95), (95, .aload_n 0, 96), (96, .getfield 16, 99), (99, .iload_n 3, 100), (100, .iconst 0, 101), (101, .iastore, 102), (102, .aload_n 0, 103), (103, .iload_n 3, 104), (104, .iconst 0, 105), (105, .invokevirtual 49, 108), (108, .aload_n 0, 109), (109, .iload_n 1, 110), (110, .iload_n 3, 111), (111, .invokevirtual 57, 114), (114, .aload_n 0, 115), (115, .iload_n 2, 116), (116, .iload_n 3, 117), (117, .invokevirtual 57, 120), (120, .aload_n 0, 121), (121, .getfield 16, 124), (124, .iload_n 3, 125), (125, .iaload, 126), (126, .ireturn, 127)])
set_option maxRecDepth 20000 in
theorem mk_M_unite : Mk X_M_unite := ⟨by unfold TBk; decide +kernel, by decide +kernel, wb_593, ⟨by decide, by decide⟩, rfl, rfl, wb_6⟩
theorem cv_M_57 : CV "OmegaDeskModel" 57 X_M_append 2 8 := ⟨Or.inl wb_594, ⟨wb_596, ws_M_append⟩, by decide +kernel, F_M, 12, rfl⟩
def m_M_unite (a1 : Int32) (a2 : Int32) (a3 : Int32) (M : Mm) : Option (Int32 × Mm) :=
  bd (m_M_out a1 (6 : Int32)) fun r1 =>
  if (bI r1) = 0 then
    bd (m_M_out a2 (6 : Int32)) fun r7 =>
    if (bI r7) = 0 then
      bd (m_M_out a3 (6 : Int32)) fun r13 =>
      if (bI r13) = 0 then
        if a1 = a2 then
          bd (some (uI M (8, 0) 0 (1 : Int32))) fun M19 =>
          if (M19.1 (8, 0) 0) ≤ 0 then
            ck (inb a3 (lenI 18)) <|
            bd (some (uI M19 (1, 18) a3.toNatClampNeg (0 : Int32))) fun M20 =>
            bd (m_M_add a3 false M20) fun r21 =>
            bd (m_M_append a1 a3 r21) fun r22 =>
            bd (m_M_append a2 a3 r22) fun r23 =>
            ck (inb a3 (lenI 18)) <|
            some ((r23.1 (1, 18) a3.toNatClampNeg), r23)
          else
            some ((0 : Int32), M19)
        else
          if a1 = a3 then
            bd (some (uI M (8, 0) 0 (1 : Int32))) fun M24 =>
            if (M24.1 (8, 0) 0) ≤ 0 then
              ck (inb a3 (lenI 18)) <|
              bd (some (uI M24 (1, 18) a3.toNatClampNeg (0 : Int32))) fun M25 =>
              bd (m_M_add a3 false M25) fun r26 =>
              bd (m_M_append a1 a3 r26) fun r27 =>
              bd (m_M_append a2 a3 r27) fun r28 =>
              ck (inb a3 (lenI 18)) <|
              some ((r28.1 (1, 18) a3.toNatClampNeg), r28)
            else
              some ((0 : Int32), M24)
          else
            if a2 = a3 then
              bd (some (uI M (8, 0) 0 (1 : Int32))) fun M29 =>
              if (M29.1 (8, 0) 0) ≤ 0 then
                ck (inb a3 (lenI 18)) <|
                bd (some (uI M29 (1, 18) a3.toNatClampNeg (0 : Int32))) fun M30 =>
                bd (m_M_add a3 false M30) fun r31 =>
                bd (m_M_append a1 a3 r31) fun r32 =>
                bd (m_M_append a2 a3 r32) fun r33 =>
                ck (inb a3 (lenI 18)) <|
                some ((r33.1 (1, 18) a3.toNatClampNeg), r33)
              else
                some ((0 : Int32), M29)
            else
              ck (inb a1 (lenI 18)) <|
              ck (inb a2 (lenI 18)) <|
              if (((1 : Int32) + (M.1 (1, 18) a1.toNatClampNeg)) + (M.1 (1, 18) a2.toNatClampNeg)) ≤ (4 : Int32) then
                bd (some (uI M (8, 0) 0 (0 : Int32))) fun M34 =>
                if (M34.1 (8, 0) 0) ≤ 0 then
                  ck (inb a3 (lenI 18)) <|
                  bd (some (uI M34 (1, 18) a3.toNatClampNeg (0 : Int32))) fun M35 =>
                  bd (m_M_add a3 false M35) fun r36 =>
                  bd (m_M_append a1 a3 r36) fun r37 =>
                  bd (m_M_append a2 a3 r37) fun r38 =>
                  ck (inb a3 (lenI 18)) <|
                  some ((r38.1 (1, 18) a3.toNatClampNeg), r38)
                else
                  some ((0 : Int32), M34)
              else
                bd (some (uI M (8, 0) 0 (2 : Int32))) fun M39 =>
                if (M39.1 (8, 0) 0) ≤ 0 then
                  ck (inb a3 (lenI 18)) <|
                  bd (some (uI M39 (1, 18) a3.toNatClampNeg (0 : Int32))) fun M40 =>
                  bd (m_M_add a3 false M40) fun r41 =>
                  bd (m_M_append a1 a3 r41) fun r42 =>
                  bd (m_M_append a2 a3 r42) fun r43 =>
                  ck (inb a3 (lenI 18)) <|
                  some ((r43.1 (1, 18) a3.toNatClampNeg), r43)
                else
                  some ((0 : Int32), M39)
      else
        bd (some (uI M (8, 0) 0 (1 : Int32))) fun M14 =>
        if (M14.1 (8, 0) 0) ≤ 0 then
          ck (inb a3 (lenI 18)) <|
          bd (some (uI M14 (1, 18) a3.toNatClampNeg (0 : Int32))) fun M15 =>
          bd (m_M_add a3 false M15) fun r16 =>
          bd (m_M_append a1 a3 r16) fun r17 =>
          bd (m_M_append a2 a3 r17) fun r18 =>
          ck (inb a3 (lenI 18)) <|
          some ((r18.1 (1, 18) a3.toNatClampNeg), r18)
        else
          some ((0 : Int32), M14)
    else
      bd (some (uI M (8, 0) 0 (1 : Int32))) fun M8 =>
      if (M8.1 (8, 0) 0) ≤ 0 then
        ck (inb a3 (lenI 18)) <|
        bd (some (uI M8 (1, 18) a3.toNatClampNeg (0 : Int32))) fun M9 =>
        bd (m_M_add a3 false M9) fun r10 =>
        bd (m_M_append a1 a3 r10) fun r11 =>
        bd (m_M_append a2 a3 r11) fun r12 =>
        ck (inb a3 (lenI 18)) <|
        some ((r12.1 (1, 18) a3.toNatClampNeg), r12)
      else
        some ((0 : Int32), M8)
  else
    bd (some (uI M (8, 0) 0 (1 : Int32))) fun M2 =>
    if (M2.1 (8, 0) 0) ≤ 0 then
      ck (inb a3 (lenI 18)) <|
      bd (some (uI M2 (1, 18) a3.toNatClampNeg (0 : Int32))) fun M3 =>
      bd (m_M_add a3 false M3) fun r4 =>
      bd (m_M_append a1 a3 r4) fun r5 =>
      bd (m_M_append a2 a3 r5) fun r6 =>
      ck (inb a3 (lenI 18)) <|
      some ((r6.1 (1, 18) a3.toNatClampNeg), r6)
    else
      some ((0 : Int32), M2)
set_option maxRecDepth 20000 in
theorem e_M_unite {l : Launch} {a1 : Int32} {a2 : Int32} {a3 : Int32} {M : Mm} {r : Int32 × Mm}  (h : m_M_unite a1 a2 a3 M = some r) : Ev l X_M_unite [vr 8 0, vi a1, vi a2, vi a3] M (fun v M2 => v = (some (vi r.1)) ∧ M2 = r.2) := by
  refine Ev.of mk_M_unite [(0, vr 8 0), (1, vi a1), (2, vi a2), (3, vi a3)] (fun _ => rfl) (fun _ => (Nat.le_of_ble_eq_true rfl)) ?_
  unfold m_M_unite at h
  refine go_iload_n 0 rfl 1 rfl rfl ?_
  refine go_bipush 6 1 rfl (by decide) ?_
  obtain ⟨r1, c, h⟩ := bd_inv h
  refine go_callS1 _ 2 rfl (e_M_out c) mk_M_out cs_M_45 rfl ⟨(Nat.le_of_ble_eq_true rfl), (Nat.le_of_ble_eq_true rfl)⟩ (Nat.le_of_ble_eq_true rfl) rfl ?_
  refine go_if_ne 46 3 rfl (by decide) (fun c => ?_) (fun c => ?_)
  · replace h := ite_f c h
    refine go_iconst 0 23 rfl (by decide) ?_
    refine go_istore 24 rfl (Nat.le_of_ble_eq_true rfl) [(0, _), (1, _), (2, _), (3, _), (4, _)] rfl ?_
    refine go_aload_n 25 rfl 0 rfl rfl ?_
    refine go_iload 26 rfl 4 rfl ?_
    refine go_if_ne 59 27 rfl (by decide) (fun c => absurd c (by decide)) (fun _ => ?_)
    refine go_iconst 1 28 rfl (by decide) ?_
    refine go_goto 83 29 rfl (by decide) ?_
    refine go_putfield 0 .int 46 rfl (by first | decide | exact ok0 (by omega) | exact ok1 (by omega) | exact ok2 (by omega) | exact ok7 (by omega)) rfl fp_M_41 rfl rfl (Nat.le_of_ble_eq_true rfl) rfl ?_
    obtain ⟨_, c, h⟩ := bd_inv h
    cases c
    refine go_aload_n 47 rfl 0 rfl rfl ?_
    refine go_getfield 0 _ 48 rfl (by first | decide | exact ok0 (by omega) | exact ok1 (by omega) | exact ok2 (by omega) | exact ok7 (by omega)) rfl fg_M_41 rfl ?_
    refine go_if_le 95 49 rfl (by decide) (fun c => ?_) (fun c => ?_)
    · replace h := ite_t c h
      refine go_aload_n 52 rfl 0 rfl rfl ?_
      refine go_getfield 3 _ 53 rfl (by first | decide | exact ok0 (by omega) | exact ok1 (by omega) | exact ok2 (by omega) | exact ok7 (by omega)) rfl fg_M_16 rfl ?_
      refine go_iload_n 54 rfl 3 rfl rfl ?_
      refine go_iconst 0 55 rfl (by decide) ?_
      obtain ⟨c, h⟩ := ck_inv h
      refine go_iastore 56 rfl (by first | decide | exact ok0 (by omega) | exact ok1 (by omega) | exact ok2 (by omega) | exact ok7 (by omega)) (inb_vp c) ?_
      obtain ⟨_, c, h⟩ := bd_inv h
      cases c
      refine go_aload_n 57 rfl 0 rfl rfl ?_
      refine go_iload_n 58 rfl 3 rfl rfl ?_
      refine go_iconst 0 59 rfl (by decide) ?_
      obtain ⟨r4, c, h⟩ := bd_inv h
      refine go_callV1 _ 60 rfl (e_M_add c) mk_M_add (by first | decide | exact ok0 (by omega) | exact ok1 (by omega) | exact ok2 (by omega) | exact ok7 (by omega)) rfl cv_M_49 rfl ⟨(Nat.le_of_ble_eq_true rfl), (Nat.le_of_ble_eq_true rfl)⟩ (Nat.le_of_ble_eq_true rfl) rfl ?_
      refine go_aload_n 61 rfl 0 rfl rfl ?_
      refine go_iload_n 62 rfl 1 rfl rfl ?_
      refine go_iload_n 63 rfl 3 rfl rfl ?_
      obtain ⟨r5, c, h⟩ := bd_inv h
      refine go_callV1 _ 64 rfl (e_M_append c) mk_M_append (by first | decide | exact ok0 (by omega) | exact ok1 (by omega) | exact ok2 (by omega) | exact ok7 (by omega)) rfl cv_M_57 rfl ⟨(Nat.le_of_ble_eq_true rfl), (Nat.le_of_ble_eq_true rfl)⟩ (Nat.le_of_ble_eq_true rfl) rfl ?_
      refine go_aload_n 65 rfl 0 rfl rfl ?_
      refine go_iload_n 66 rfl 2 rfl rfl ?_
      refine go_iload_n 67 rfl 3 rfl rfl ?_
      obtain ⟨r6, c, h⟩ := bd_inv h
      refine go_callV1 _ 68 rfl (e_M_append c) mk_M_append (by first | decide | exact ok0 (by omega) | exact ok1 (by omega) | exact ok2 (by omega) | exact ok7 (by omega)) rfl cv_M_57 rfl ⟨(Nat.le_of_ble_eq_true rfl), (Nat.le_of_ble_eq_true rfl)⟩ (Nat.le_of_ble_eq_true rfl) rfl ?_
      refine go_aload_n 69 rfl 0 rfl rfl ?_
      refine go_getfield 3 _ 70 rfl (by first | decide | exact ok0 (by omega) | exact ok1 (by omega) | exact ok2 (by omega) | exact ok7 (by omega)) rfl fg_M_16 rfl ?_
      refine go_iload_n 71 rfl 3 rfl rfl ?_
      obtain ⟨c, h⟩ := ck_inv h
      refine go_iaload 72 rfl (by first | decide | exact ok0 (by omega) | exact ok1 (by omega) | exact ok2 (by omega) | exact ok7 (by omega)) (inb_vp c) ?_
      cases h
      exact go_ireturn 73 rfl rfl rfl ⟨rfl, rfl⟩
    · replace h := ite_f c h
      refine go_iconst 0 50 rfl (by decide) ?_
      cases h
      exact go_ireturn 51 rfl rfl rfl ⟨rfl, rfl⟩
  · replace h := ite_t c h
    refine go_iload_n 4 rfl 2 rfl rfl ?_
    refine go_bipush 6 5 rfl (by decide) ?_
    obtain ⟨r7, c, h⟩ := bd_inv h
    refine go_callS1 _ 6 rfl (e_M_out c) mk_M_out cs_M_45 rfl ⟨(Nat.le_of_ble_eq_true rfl), (Nat.le_of_ble_eq_true rfl)⟩ (Nat.le_of_ble_eq_true rfl) rfl ?_
    refine go_if_ne 46 7 rfl (by decide) (fun c => ?_) (fun c => ?_)
    · replace h := ite_f c h
      refine go_iconst 0 23 rfl (by decide) ?_
      refine go_istore 24 rfl (Nat.le_of_ble_eq_true rfl) [(0, _), (1, _), (2, _), (3, _), (4, _)] rfl ?_
      refine go_aload_n 25 rfl 0 rfl rfl ?_
      refine go_iload 26 rfl 4 rfl ?_
      refine go_if_ne 59 27 rfl (by decide) (fun c => absurd c (by decide)) (fun _ => ?_)
      refine go_iconst 1 28 rfl (by decide) ?_
      refine go_goto 83 29 rfl (by decide) ?_
      refine go_putfield 0 .int 46 rfl (by first | decide | exact ok0 (by omega) | exact ok1 (by omega) | exact ok2 (by omega) | exact ok7 (by omega)) rfl fp_M_41 rfl rfl (Nat.le_of_ble_eq_true rfl) rfl ?_
      obtain ⟨_, c, h⟩ := bd_inv h
      cases c
      refine go_aload_n 47 rfl 0 rfl rfl ?_
      refine go_getfield 0 _ 48 rfl (by first | decide | exact ok0 (by omega) | exact ok1 (by omega) | exact ok2 (by omega) | exact ok7 (by omega)) rfl fg_M_41 rfl ?_
      refine go_if_le 95 49 rfl (by decide) (fun c => ?_) (fun c => ?_)
      · replace h := ite_t c h
        refine go_aload_n 52 rfl 0 rfl rfl ?_
        refine go_getfield 3 _ 53 rfl (by first | decide | exact ok0 (by omega) | exact ok1 (by omega) | exact ok2 (by omega) | exact ok7 (by omega)) rfl fg_M_16 rfl ?_
        refine go_iload_n 54 rfl 3 rfl rfl ?_
        refine go_iconst 0 55 rfl (by decide) ?_
        obtain ⟨c, h⟩ := ck_inv h
        refine go_iastore 56 rfl (by first | decide | exact ok0 (by omega) | exact ok1 (by omega) | exact ok2 (by omega) | exact ok7 (by omega)) (inb_vp c) ?_
        obtain ⟨_, c, h⟩ := bd_inv h
        cases c
        refine go_aload_n 57 rfl 0 rfl rfl ?_
        refine go_iload_n 58 rfl 3 rfl rfl ?_
        refine go_iconst 0 59 rfl (by decide) ?_
        obtain ⟨r10, c, h⟩ := bd_inv h
        refine go_callV1 _ 60 rfl (e_M_add c) mk_M_add (by first | decide | exact ok0 (by omega) | exact ok1 (by omega) | exact ok2 (by omega) | exact ok7 (by omega)) rfl cv_M_49 rfl ⟨(Nat.le_of_ble_eq_true rfl), (Nat.le_of_ble_eq_true rfl)⟩ (Nat.le_of_ble_eq_true rfl) rfl ?_
        refine go_aload_n 61 rfl 0 rfl rfl ?_
        refine go_iload_n 62 rfl 1 rfl rfl ?_
        refine go_iload_n 63 rfl 3 rfl rfl ?_
        obtain ⟨r11, c, h⟩ := bd_inv h
        refine go_callV1 _ 64 rfl (e_M_append c) mk_M_append (by first | decide | exact ok0 (by omega) | exact ok1 (by omega) | exact ok2 (by omega) | exact ok7 (by omega)) rfl cv_M_57 rfl ⟨(Nat.le_of_ble_eq_true rfl), (Nat.le_of_ble_eq_true rfl)⟩ (Nat.le_of_ble_eq_true rfl) rfl ?_
        refine go_aload_n 65 rfl 0 rfl rfl ?_
        refine go_iload_n 66 rfl 2 rfl rfl ?_
        refine go_iload_n 67 rfl 3 rfl rfl ?_
        obtain ⟨r12, c, h⟩ := bd_inv h
        refine go_callV1 _ 68 rfl (e_M_append c) mk_M_append (by first | decide | exact ok0 (by omega) | exact ok1 (by omega) | exact ok2 (by omega) | exact ok7 (by omega)) rfl cv_M_57 rfl ⟨(Nat.le_of_ble_eq_true rfl), (Nat.le_of_ble_eq_true rfl)⟩ (Nat.le_of_ble_eq_true rfl) rfl ?_
        refine go_aload_n 69 rfl 0 rfl rfl ?_
        refine go_getfield 3 _ 70 rfl (by first | decide | exact ok0 (by omega) | exact ok1 (by omega) | exact ok2 (by omega) | exact ok7 (by omega)) rfl fg_M_16 rfl ?_
        refine go_iload_n 71 rfl 3 rfl rfl ?_
        obtain ⟨c, h⟩ := ck_inv h
        refine go_iaload 72 rfl (by first | decide | exact ok0 (by omega) | exact ok1 (by omega) | exact ok2 (by omega) | exact ok7 (by omega)) (inb_vp c) ?_
        cases h
        exact go_ireturn 73 rfl rfl rfl ⟨rfl, rfl⟩
      · replace h := ite_f c h
        refine go_iconst 0 50 rfl (by decide) ?_
        cases h
        exact go_ireturn 51 rfl rfl rfl ⟨rfl, rfl⟩
    · replace h := ite_t c h
      refine go_iload_n 8 rfl 3 rfl rfl ?_
      refine go_bipush 6 9 rfl (by decide) ?_
      obtain ⟨r13, c, h⟩ := bd_inv h
      refine go_callS1 _ 10 rfl (e_M_out c) mk_M_out cs_M_45 rfl ⟨(Nat.le_of_ble_eq_true rfl), (Nat.le_of_ble_eq_true rfl)⟩ (Nat.le_of_ble_eq_true rfl) rfl ?_
      refine go_if_ne 46 11 rfl (by decide) (fun c => ?_) (fun c => ?_)
      · replace h := ite_f c h
        refine go_iconst 0 23 rfl (by decide) ?_
        refine go_istore 24 rfl (Nat.le_of_ble_eq_true rfl) [(0, _), (1, _), (2, _), (3, _), (4, _)] rfl ?_
        refine go_aload_n 25 rfl 0 rfl rfl ?_
        refine go_iload 26 rfl 4 rfl ?_
        refine go_if_ne 59 27 rfl (by decide) (fun c => absurd c (by decide)) (fun _ => ?_)
        refine go_iconst 1 28 rfl (by decide) ?_
        refine go_goto 83 29 rfl (by decide) ?_
        refine go_putfield 0 .int 46 rfl (by first | decide | exact ok0 (by omega) | exact ok1 (by omega) | exact ok2 (by omega) | exact ok7 (by omega)) rfl fp_M_41 rfl rfl (Nat.le_of_ble_eq_true rfl) rfl ?_
        obtain ⟨_, c, h⟩ := bd_inv h
        cases c
        refine go_aload_n 47 rfl 0 rfl rfl ?_
        refine go_getfield 0 _ 48 rfl (by first | decide | exact ok0 (by omega) | exact ok1 (by omega) | exact ok2 (by omega) | exact ok7 (by omega)) rfl fg_M_41 rfl ?_
        refine go_if_le 95 49 rfl (by decide) (fun c => ?_) (fun c => ?_)
        · replace h := ite_t c h
          refine go_aload_n 52 rfl 0 rfl rfl ?_
          refine go_getfield 3 _ 53 rfl (by first | decide | exact ok0 (by omega) | exact ok1 (by omega) | exact ok2 (by omega) | exact ok7 (by omega)) rfl fg_M_16 rfl ?_
          refine go_iload_n 54 rfl 3 rfl rfl ?_
          refine go_iconst 0 55 rfl (by decide) ?_
          obtain ⟨c, h⟩ := ck_inv h
          refine go_iastore 56 rfl (by first | decide | exact ok0 (by omega) | exact ok1 (by omega) | exact ok2 (by omega) | exact ok7 (by omega)) (inb_vp c) ?_
          obtain ⟨_, c, h⟩ := bd_inv h
          cases c
          refine go_aload_n 57 rfl 0 rfl rfl ?_
          refine go_iload_n 58 rfl 3 rfl rfl ?_
          refine go_iconst 0 59 rfl (by decide) ?_
          obtain ⟨r16, c, h⟩ := bd_inv h
          refine go_callV1 _ 60 rfl (e_M_add c) mk_M_add (by first | decide | exact ok0 (by omega) | exact ok1 (by omega) | exact ok2 (by omega) | exact ok7 (by omega)) rfl cv_M_49 rfl ⟨(Nat.le_of_ble_eq_true rfl), (Nat.le_of_ble_eq_true rfl)⟩ (Nat.le_of_ble_eq_true rfl) rfl ?_
          refine go_aload_n 61 rfl 0 rfl rfl ?_
          refine go_iload_n 62 rfl 1 rfl rfl ?_
          refine go_iload_n 63 rfl 3 rfl rfl ?_
          obtain ⟨r17, c, h⟩ := bd_inv h
          refine go_callV1 _ 64 rfl (e_M_append c) mk_M_append (by first | decide | exact ok0 (by omega) | exact ok1 (by omega) | exact ok2 (by omega) | exact ok7 (by omega)) rfl cv_M_57 rfl ⟨(Nat.le_of_ble_eq_true rfl), (Nat.le_of_ble_eq_true rfl)⟩ (Nat.le_of_ble_eq_true rfl) rfl ?_
          refine go_aload_n 65 rfl 0 rfl rfl ?_
          refine go_iload_n 66 rfl 2 rfl rfl ?_
          refine go_iload_n 67 rfl 3 rfl rfl ?_
          obtain ⟨r18, c, h⟩ := bd_inv h
          refine go_callV1 _ 68 rfl (e_M_append c) mk_M_append (by first | decide | exact ok0 (by omega) | exact ok1 (by omega) | exact ok2 (by omega) | exact ok7 (by omega)) rfl cv_M_57 rfl ⟨(Nat.le_of_ble_eq_true rfl), (Nat.le_of_ble_eq_true rfl)⟩ (Nat.le_of_ble_eq_true rfl) rfl ?_
          refine go_aload_n 69 rfl 0 rfl rfl ?_
          refine go_getfield 3 _ 70 rfl (by first | decide | exact ok0 (by omega) | exact ok1 (by omega) | exact ok2 (by omega) | exact ok7 (by omega)) rfl fg_M_16 rfl ?_
          refine go_iload_n 71 rfl 3 rfl rfl ?_
          obtain ⟨c, h⟩ := ck_inv h
          refine go_iaload 72 rfl (by first | decide | exact ok0 (by omega) | exact ok1 (by omega) | exact ok2 (by omega) | exact ok7 (by omega)) (inb_vp c) ?_
          cases h
          exact go_ireturn 73 rfl rfl rfl ⟨rfl, rfl⟩
        · replace h := ite_f c h
          refine go_iconst 0 50 rfl (by decide) ?_
          cases h
          exact go_ireturn 51 rfl rfl rfl ⟨rfl, rfl⟩
      · replace h := ite_t c h
        refine go_iload_n 12 rfl 1 rfl rfl ?_
        refine go_iload_n 13 rfl 2 rfl rfl ?_
        refine go_icmp_eq 46 14 rfl (by decide) (fun c => ?_) (fun c => ?_)
        · replace h := ite_t c h
          refine go_iconst 0 23 rfl (by decide) ?_
          refine go_istore 24 rfl (Nat.le_of_ble_eq_true rfl) [(0, _), (1, _), (2, _), (3, _), (4, _)] rfl ?_
          refine go_aload_n 25 rfl 0 rfl rfl ?_
          refine go_iload 26 rfl 4 rfl ?_
          refine go_if_ne 59 27 rfl (by decide) (fun c => absurd c (by decide)) (fun _ => ?_)
          refine go_iconst 1 28 rfl (by decide) ?_
          refine go_goto 83 29 rfl (by decide) ?_
          refine go_putfield 0 .int 46 rfl (by first | decide | exact ok0 (by omega) | exact ok1 (by omega) | exact ok2 (by omega) | exact ok7 (by omega)) rfl fp_M_41 rfl rfl (Nat.le_of_ble_eq_true rfl) rfl ?_
          obtain ⟨_, c, h⟩ := bd_inv h
          cases c
          refine go_aload_n 47 rfl 0 rfl rfl ?_
          refine go_getfield 0 _ 48 rfl (by first | decide | exact ok0 (by omega) | exact ok1 (by omega) | exact ok2 (by omega) | exact ok7 (by omega)) rfl fg_M_41 rfl ?_
          refine go_if_le 95 49 rfl (by decide) (fun c => ?_) (fun c => ?_)
          · replace h := ite_t c h
            refine go_aload_n 52 rfl 0 rfl rfl ?_
            refine go_getfield 3 _ 53 rfl (by first | decide | exact ok0 (by omega) | exact ok1 (by omega) | exact ok2 (by omega) | exact ok7 (by omega)) rfl fg_M_16 rfl ?_
            refine go_iload_n 54 rfl 3 rfl rfl ?_
            refine go_iconst 0 55 rfl (by decide) ?_
            obtain ⟨c, h⟩ := ck_inv h
            refine go_iastore 56 rfl (by first | decide | exact ok0 (by omega) | exact ok1 (by omega) | exact ok2 (by omega) | exact ok7 (by omega)) (inb_vp c) ?_
            obtain ⟨_, c, h⟩ := bd_inv h
            cases c
            refine go_aload_n 57 rfl 0 rfl rfl ?_
            refine go_iload_n 58 rfl 3 rfl rfl ?_
            refine go_iconst 0 59 rfl (by decide) ?_
            obtain ⟨r21, c, h⟩ := bd_inv h
            refine go_callV1 _ 60 rfl (e_M_add c) mk_M_add (by first | decide | exact ok0 (by omega) | exact ok1 (by omega) | exact ok2 (by omega) | exact ok7 (by omega)) rfl cv_M_49 rfl ⟨(Nat.le_of_ble_eq_true rfl), (Nat.le_of_ble_eq_true rfl)⟩ (Nat.le_of_ble_eq_true rfl) rfl ?_
            refine go_aload_n 61 rfl 0 rfl rfl ?_
            refine go_iload_n 62 rfl 1 rfl rfl ?_
            refine go_iload_n 63 rfl 3 rfl rfl ?_
            obtain ⟨r22, c, h⟩ := bd_inv h
            refine go_callV1 _ 64 rfl (e_M_append c) mk_M_append (by first | decide | exact ok0 (by omega) | exact ok1 (by omega) | exact ok2 (by omega) | exact ok7 (by omega)) rfl cv_M_57 rfl ⟨(Nat.le_of_ble_eq_true rfl), (Nat.le_of_ble_eq_true rfl)⟩ (Nat.le_of_ble_eq_true rfl) rfl ?_
            refine go_aload_n 65 rfl 0 rfl rfl ?_
            refine go_iload_n 66 rfl 2 rfl rfl ?_
            refine go_iload_n 67 rfl 3 rfl rfl ?_
            obtain ⟨r23, c, h⟩ := bd_inv h
            refine go_callV1 _ 68 rfl (e_M_append c) mk_M_append (by first | decide | exact ok0 (by omega) | exact ok1 (by omega) | exact ok2 (by omega) | exact ok7 (by omega)) rfl cv_M_57 rfl ⟨(Nat.le_of_ble_eq_true rfl), (Nat.le_of_ble_eq_true rfl)⟩ (Nat.le_of_ble_eq_true rfl) rfl ?_
            refine go_aload_n 69 rfl 0 rfl rfl ?_
            refine go_getfield 3 _ 70 rfl (by first | decide | exact ok0 (by omega) | exact ok1 (by omega) | exact ok2 (by omega) | exact ok7 (by omega)) rfl fg_M_16 rfl ?_
            refine go_iload_n 71 rfl 3 rfl rfl ?_
            obtain ⟨c, h⟩ := ck_inv h
            refine go_iaload 72 rfl (by first | decide | exact ok0 (by omega) | exact ok1 (by omega) | exact ok2 (by omega) | exact ok7 (by omega)) (inb_vp c) ?_
            cases h
            exact go_ireturn 73 rfl rfl rfl ⟨rfl, rfl⟩
          · replace h := ite_f c h
            refine go_iconst 0 50 rfl (by decide) ?_
            cases h
            exact go_ireturn 51 rfl rfl rfl ⟨rfl, rfl⟩
        · replace h := ite_f c h
          refine go_iload_n 15 rfl 1 rfl rfl ?_
          refine go_iload_n 16 rfl 3 rfl rfl ?_
          refine go_icmp_eq 46 17 rfl (by decide) (fun c => ?_) (fun c => ?_)
          · replace h := ite_t c h
            refine go_iconst 0 23 rfl (by decide) ?_
            refine go_istore 24 rfl (Nat.le_of_ble_eq_true rfl) [(0, _), (1, _), (2, _), (3, _), (4, _)] rfl ?_
            refine go_aload_n 25 rfl 0 rfl rfl ?_
            refine go_iload 26 rfl 4 rfl ?_
            refine go_if_ne 59 27 rfl (by decide) (fun c => absurd c (by decide)) (fun _ => ?_)
            refine go_iconst 1 28 rfl (by decide) ?_
            refine go_goto 83 29 rfl (by decide) ?_
            refine go_putfield 0 .int 46 rfl (by first | decide | exact ok0 (by omega) | exact ok1 (by omega) | exact ok2 (by omega) | exact ok7 (by omega)) rfl fp_M_41 rfl rfl (Nat.le_of_ble_eq_true rfl) rfl ?_
            obtain ⟨_, c, h⟩ := bd_inv h
            cases c
            refine go_aload_n 47 rfl 0 rfl rfl ?_
            refine go_getfield 0 _ 48 rfl (by first | decide | exact ok0 (by omega) | exact ok1 (by omega) | exact ok2 (by omega) | exact ok7 (by omega)) rfl fg_M_41 rfl ?_
            refine go_if_le 95 49 rfl (by decide) (fun c => ?_) (fun c => ?_)
            · replace h := ite_t c h
              refine go_aload_n 52 rfl 0 rfl rfl ?_
              refine go_getfield 3 _ 53 rfl (by first | decide | exact ok0 (by omega) | exact ok1 (by omega) | exact ok2 (by omega) | exact ok7 (by omega)) rfl fg_M_16 rfl ?_
              refine go_iload_n 54 rfl 3 rfl rfl ?_
              refine go_iconst 0 55 rfl (by decide) ?_
              obtain ⟨c, h⟩ := ck_inv h
              refine go_iastore 56 rfl (by first | decide | exact ok0 (by omega) | exact ok1 (by omega) | exact ok2 (by omega) | exact ok7 (by omega)) (inb_vp c) ?_
              obtain ⟨_, c, h⟩ := bd_inv h
              cases c
              refine go_aload_n 57 rfl 0 rfl rfl ?_
              refine go_iload_n 58 rfl 3 rfl rfl ?_
              refine go_iconst 0 59 rfl (by decide) ?_
              obtain ⟨r26, c, h⟩ := bd_inv h
              refine go_callV1 _ 60 rfl (e_M_add c) mk_M_add (by first | decide | exact ok0 (by omega) | exact ok1 (by omega) | exact ok2 (by omega) | exact ok7 (by omega)) rfl cv_M_49 rfl ⟨(Nat.le_of_ble_eq_true rfl), (Nat.le_of_ble_eq_true rfl)⟩ (Nat.le_of_ble_eq_true rfl) rfl ?_
              refine go_aload_n 61 rfl 0 rfl rfl ?_
              refine go_iload_n 62 rfl 1 rfl rfl ?_
              refine go_iload_n 63 rfl 3 rfl rfl ?_
              obtain ⟨r27, c, h⟩ := bd_inv h
              refine go_callV1 _ 64 rfl (e_M_append c) mk_M_append (by first | decide | exact ok0 (by omega) | exact ok1 (by omega) | exact ok2 (by omega) | exact ok7 (by omega)) rfl cv_M_57 rfl ⟨(Nat.le_of_ble_eq_true rfl), (Nat.le_of_ble_eq_true rfl)⟩ (Nat.le_of_ble_eq_true rfl) rfl ?_
              refine go_aload_n 65 rfl 0 rfl rfl ?_
              refine go_iload_n 66 rfl 2 rfl rfl ?_
              refine go_iload_n 67 rfl 3 rfl rfl ?_
              obtain ⟨r28, c, h⟩ := bd_inv h
              refine go_callV1 _ 68 rfl (e_M_append c) mk_M_append (by first | decide | exact ok0 (by omega) | exact ok1 (by omega) | exact ok2 (by omega) | exact ok7 (by omega)) rfl cv_M_57 rfl ⟨(Nat.le_of_ble_eq_true rfl), (Nat.le_of_ble_eq_true rfl)⟩ (Nat.le_of_ble_eq_true rfl) rfl ?_
              refine go_aload_n 69 rfl 0 rfl rfl ?_
              refine go_getfield 3 _ 70 rfl (by first | decide | exact ok0 (by omega) | exact ok1 (by omega) | exact ok2 (by omega) | exact ok7 (by omega)) rfl fg_M_16 rfl ?_
              refine go_iload_n 71 rfl 3 rfl rfl ?_
              obtain ⟨c, h⟩ := ck_inv h
              refine go_iaload 72 rfl (by first | decide | exact ok0 (by omega) | exact ok1 (by omega) | exact ok2 (by omega) | exact ok7 (by omega)) (inb_vp c) ?_
              cases h
              exact go_ireturn 73 rfl rfl rfl ⟨rfl, rfl⟩
            · replace h := ite_f c h
              refine go_iconst 0 50 rfl (by decide) ?_
              cases h
              exact go_ireturn 51 rfl rfl rfl ⟨rfl, rfl⟩
          · replace h := ite_f c h
            refine go_iload_n 18 rfl 2 rfl rfl ?_
            refine go_iload_n 19 rfl 3 rfl rfl ?_
            refine go_icmp_eq 46 20 rfl (by decide) (fun c => ?_) (fun c => ?_)
            · replace h := ite_t c h
              refine go_iconst 0 23 rfl (by decide) ?_
              refine go_istore 24 rfl (Nat.le_of_ble_eq_true rfl) [(0, _), (1, _), (2, _), (3, _), (4, _)] rfl ?_
              refine go_aload_n 25 rfl 0 rfl rfl ?_
              refine go_iload 26 rfl 4 rfl ?_
              refine go_if_ne 59 27 rfl (by decide) (fun c => absurd c (by decide)) (fun _ => ?_)
              refine go_iconst 1 28 rfl (by decide) ?_
              refine go_goto 83 29 rfl (by decide) ?_
              refine go_putfield 0 .int 46 rfl (by first | decide | exact ok0 (by omega) | exact ok1 (by omega) | exact ok2 (by omega) | exact ok7 (by omega)) rfl fp_M_41 rfl rfl (Nat.le_of_ble_eq_true rfl) rfl ?_
              obtain ⟨_, c, h⟩ := bd_inv h
              cases c
              refine go_aload_n 47 rfl 0 rfl rfl ?_
              refine go_getfield 0 _ 48 rfl (by first | decide | exact ok0 (by omega) | exact ok1 (by omega) | exact ok2 (by omega) | exact ok7 (by omega)) rfl fg_M_41 rfl ?_
              refine go_if_le 95 49 rfl (by decide) (fun c => ?_) (fun c => ?_)
              · replace h := ite_t c h
                refine go_aload_n 52 rfl 0 rfl rfl ?_
                refine go_getfield 3 _ 53 rfl (by first | decide | exact ok0 (by omega) | exact ok1 (by omega) | exact ok2 (by omega) | exact ok7 (by omega)) rfl fg_M_16 rfl ?_
                refine go_iload_n 54 rfl 3 rfl rfl ?_
                refine go_iconst 0 55 rfl (by decide) ?_
                obtain ⟨c, h⟩ := ck_inv h
                refine go_iastore 56 rfl (by first | decide | exact ok0 (by omega) | exact ok1 (by omega) | exact ok2 (by omega) | exact ok7 (by omega)) (inb_vp c) ?_
                obtain ⟨_, c, h⟩ := bd_inv h
                cases c
                refine go_aload_n 57 rfl 0 rfl rfl ?_
                refine go_iload_n 58 rfl 3 rfl rfl ?_
                refine go_iconst 0 59 rfl (by decide) ?_
                obtain ⟨r31, c, h⟩ := bd_inv h
                refine go_callV1 _ 60 rfl (e_M_add c) mk_M_add (by first | decide | exact ok0 (by omega) | exact ok1 (by omega) | exact ok2 (by omega) | exact ok7 (by omega)) rfl cv_M_49 rfl ⟨(Nat.le_of_ble_eq_true rfl), (Nat.le_of_ble_eq_true rfl)⟩ (Nat.le_of_ble_eq_true rfl) rfl ?_
                refine go_aload_n 61 rfl 0 rfl rfl ?_
                refine go_iload_n 62 rfl 1 rfl rfl ?_
                refine go_iload_n 63 rfl 3 rfl rfl ?_
                obtain ⟨r32, c, h⟩ := bd_inv h
                refine go_callV1 _ 64 rfl (e_M_append c) mk_M_append (by first | decide | exact ok0 (by omega) | exact ok1 (by omega) | exact ok2 (by omega) | exact ok7 (by omega)) rfl cv_M_57 rfl ⟨(Nat.le_of_ble_eq_true rfl), (Nat.le_of_ble_eq_true rfl)⟩ (Nat.le_of_ble_eq_true rfl) rfl ?_
                refine go_aload_n 65 rfl 0 rfl rfl ?_
                refine go_iload_n 66 rfl 2 rfl rfl ?_
                refine go_iload_n 67 rfl 3 rfl rfl ?_
                obtain ⟨r33, c, h⟩ := bd_inv h
                refine go_callV1 _ 68 rfl (e_M_append c) mk_M_append (by first | decide | exact ok0 (by omega) | exact ok1 (by omega) | exact ok2 (by omega) | exact ok7 (by omega)) rfl cv_M_57 rfl ⟨(Nat.le_of_ble_eq_true rfl), (Nat.le_of_ble_eq_true rfl)⟩ (Nat.le_of_ble_eq_true rfl) rfl ?_
                refine go_aload_n 69 rfl 0 rfl rfl ?_
                refine go_getfield 3 _ 70 rfl (by first | decide | exact ok0 (by omega) | exact ok1 (by omega) | exact ok2 (by omega) | exact ok7 (by omega)) rfl fg_M_16 rfl ?_
                refine go_iload_n 71 rfl 3 rfl rfl ?_
                obtain ⟨c, h⟩ := ck_inv h
                refine go_iaload 72 rfl (by first | decide | exact ok0 (by omega) | exact ok1 (by omega) | exact ok2 (by omega) | exact ok7 (by omega)) (inb_vp c) ?_
                cases h
                exact go_ireturn 73 rfl rfl rfl ⟨rfl, rfl⟩
              · replace h := ite_f c h
                refine go_iconst 0 50 rfl (by decide) ?_
                cases h
                exact go_ireturn 51 rfl rfl rfl ⟨rfl, rfl⟩
            · replace h := ite_f c h
              refine go_iconst 1 21 rfl (by decide) ?_
              refine go_goto 47 22 rfl (by decide) ?_
              refine go_istore 24 rfl (Nat.le_of_ble_eq_true rfl) [(0, _), (1, _), (2, _), (3, _), (4, _)] rfl ?_
              refine go_aload_n 25 rfl 0 rfl rfl ?_
              refine go_iload 26 rfl 4 rfl ?_
              refine go_if_ne 59 27 rfl (by decide) (fun _ => ?_) (fun c => absurd c (by decide))
              refine go_iconst 1 30 rfl (by decide) ?_
              refine go_aload_n 31 rfl 0 rfl rfl ?_
              refine go_getfield 3 _ 32 rfl (by first | decide | exact ok0 (by omega) | exact ok1 (by omega) | exact ok2 (by omega) | exact ok7 (by omega)) rfl fg_M_16 rfl ?_
              refine go_iload_n 33 rfl 1 rfl rfl ?_
              obtain ⟨c, h⟩ := ck_inv h
              refine go_iaload 34 rfl (by first | decide | exact ok0 (by omega) | exact ok1 (by omega) | exact ok2 (by omega) | exact ok7 (by omega)) (inb_vp c) ?_
              refine go_iadd 35 rfl ?_
              refine go_aload_n 36 rfl 0 rfl rfl ?_
              refine go_getfield 3 _ 37 rfl (by first | decide | exact ok0 (by omega) | exact ok1 (by omega) | exact ok2 (by omega) | exact ok7 (by omega)) rfl fg_M_16 rfl ?_
              refine go_iload_n 38 rfl 2 rfl rfl ?_
              obtain ⟨c, h⟩ := ck_inv h
              refine go_iaload 39 rfl (by first | decide | exact ok0 (by omega) | exact ok1 (by omega) | exact ok2 (by omega) | exact ok7 (by omega)) (inb_vp c) ?_
              refine go_iadd 40 rfl ?_
              refine go_iconst 4 41 rfl (by decide) ?_
              refine go_icmp_le 82 42 rfl (by decide) (fun c => ?_) (fun c => ?_)
              · replace h := ite_t c h
                refine go_iconst 0 45 rfl (by decide) ?_
                refine go_putfield 0 .int 46 rfl (by first | decide | exact ok0 (by omega) | exact ok1 (by omega) | exact ok2 (by omega) | exact ok7 (by omega)) rfl fp_M_41 rfl rfl (Nat.le_of_ble_eq_true rfl) rfl ?_
                obtain ⟨_, c, h⟩ := bd_inv h
                cases c
                refine go_aload_n 47 rfl 0 rfl rfl ?_
                refine go_getfield 0 _ 48 rfl (by first | decide | exact ok0 (by omega) | exact ok1 (by omega) | exact ok2 (by omega) | exact ok7 (by omega)) rfl fg_M_41 rfl ?_
                refine go_if_le 95 49 rfl (by decide) (fun c => ?_) (fun c => ?_)
                · replace h := ite_t c h
                  refine go_aload_n 52 rfl 0 rfl rfl ?_
                  refine go_getfield 3 _ 53 rfl (by first | decide | exact ok0 (by omega) | exact ok1 (by omega) | exact ok2 (by omega) | exact ok7 (by omega)) rfl fg_M_16 rfl ?_
                  refine go_iload_n 54 rfl 3 rfl rfl ?_
                  refine go_iconst 0 55 rfl (by decide) ?_
                  obtain ⟨c, h⟩ := ck_inv h
                  refine go_iastore 56 rfl (by first | decide | exact ok0 (by omega) | exact ok1 (by omega) | exact ok2 (by omega) | exact ok7 (by omega)) (inb_vp c) ?_
                  obtain ⟨_, c, h⟩ := bd_inv h
                  cases c
                  refine go_aload_n 57 rfl 0 rfl rfl ?_
                  refine go_iload_n 58 rfl 3 rfl rfl ?_
                  refine go_iconst 0 59 rfl (by decide) ?_
                  obtain ⟨r36, c, h⟩ := bd_inv h
                  refine go_callV1 _ 60 rfl (e_M_add c) mk_M_add (by first | decide | exact ok0 (by omega) | exact ok1 (by omega) | exact ok2 (by omega) | exact ok7 (by omega)) rfl cv_M_49 rfl ⟨(Nat.le_of_ble_eq_true rfl), (Nat.le_of_ble_eq_true rfl)⟩ (Nat.le_of_ble_eq_true rfl) rfl ?_
                  refine go_aload_n 61 rfl 0 rfl rfl ?_
                  refine go_iload_n 62 rfl 1 rfl rfl ?_
                  refine go_iload_n 63 rfl 3 rfl rfl ?_
                  obtain ⟨r37, c, h⟩ := bd_inv h
                  refine go_callV1 _ 64 rfl (e_M_append c) mk_M_append (by first | decide | exact ok0 (by omega) | exact ok1 (by omega) | exact ok2 (by omega) | exact ok7 (by omega)) rfl cv_M_57 rfl ⟨(Nat.le_of_ble_eq_true rfl), (Nat.le_of_ble_eq_true rfl)⟩ (Nat.le_of_ble_eq_true rfl) rfl ?_
                  refine go_aload_n 65 rfl 0 rfl rfl ?_
                  refine go_iload_n 66 rfl 2 rfl rfl ?_
                  refine go_iload_n 67 rfl 3 rfl rfl ?_
                  obtain ⟨r38, c, h⟩ := bd_inv h
                  refine go_callV1 _ 68 rfl (e_M_append c) mk_M_append (by first | decide | exact ok0 (by omega) | exact ok1 (by omega) | exact ok2 (by omega) | exact ok7 (by omega)) rfl cv_M_57 rfl ⟨(Nat.le_of_ble_eq_true rfl), (Nat.le_of_ble_eq_true rfl)⟩ (Nat.le_of_ble_eq_true rfl) rfl ?_
                  refine go_aload_n 69 rfl 0 rfl rfl ?_
                  refine go_getfield 3 _ 70 rfl (by first | decide | exact ok0 (by omega) | exact ok1 (by omega) | exact ok2 (by omega) | exact ok7 (by omega)) rfl fg_M_16 rfl ?_
                  refine go_iload_n 71 rfl 3 rfl rfl ?_
                  obtain ⟨c, h⟩ := ck_inv h
                  refine go_iaload 72 rfl (by first | decide | exact ok0 (by omega) | exact ok1 (by omega) | exact ok2 (by omega) | exact ok7 (by omega)) (inb_vp c) ?_
                  cases h
                  exact go_ireturn 73 rfl rfl rfl ⟨rfl, rfl⟩
                · replace h := ite_f c h
                  refine go_iconst 0 50 rfl (by decide) ?_
                  cases h
                  exact go_ireturn 51 rfl rfl rfl ⟨rfl, rfl⟩
              · replace h := ite_f c h
                refine go_iconst 2 43 rfl (by decide) ?_
                refine go_goto 83 44 rfl (by decide) ?_
                refine go_putfield 0 .int 46 rfl (by first | decide | exact ok0 (by omega) | exact ok1 (by omega) | exact ok2 (by omega) | exact ok7 (by omega)) rfl fp_M_41 rfl rfl (Nat.le_of_ble_eq_true rfl) rfl ?_
                obtain ⟨_, c, h⟩ := bd_inv h
                cases c
                refine go_aload_n 47 rfl 0 rfl rfl ?_
                refine go_getfield 0 _ 48 rfl (by first | decide | exact ok0 (by omega) | exact ok1 (by omega) | exact ok2 (by omega) | exact ok7 (by omega)) rfl fg_M_41 rfl ?_
                refine go_if_le 95 49 rfl (by decide) (fun c => ?_) (fun c => ?_)
                · replace h := ite_t c h
                  refine go_aload_n 52 rfl 0 rfl rfl ?_
                  refine go_getfield 3 _ 53 rfl (by first | decide | exact ok0 (by omega) | exact ok1 (by omega) | exact ok2 (by omega) | exact ok7 (by omega)) rfl fg_M_16 rfl ?_
                  refine go_iload_n 54 rfl 3 rfl rfl ?_
                  refine go_iconst 0 55 rfl (by decide) ?_
                  obtain ⟨c, h⟩ := ck_inv h
                  refine go_iastore 56 rfl (by first | decide | exact ok0 (by omega) | exact ok1 (by omega) | exact ok2 (by omega) | exact ok7 (by omega)) (inb_vp c) ?_
                  obtain ⟨_, c, h⟩ := bd_inv h
                  cases c
                  refine go_aload_n 57 rfl 0 rfl rfl ?_
                  refine go_iload_n 58 rfl 3 rfl rfl ?_
                  refine go_iconst 0 59 rfl (by decide) ?_
                  obtain ⟨r41, c, h⟩ := bd_inv h
                  refine go_callV1 _ 60 rfl (e_M_add c) mk_M_add (by first | decide | exact ok0 (by omega) | exact ok1 (by omega) | exact ok2 (by omega) | exact ok7 (by omega)) rfl cv_M_49 rfl ⟨(Nat.le_of_ble_eq_true rfl), (Nat.le_of_ble_eq_true rfl)⟩ (Nat.le_of_ble_eq_true rfl) rfl ?_
                  refine go_aload_n 61 rfl 0 rfl rfl ?_
                  refine go_iload_n 62 rfl 1 rfl rfl ?_
                  refine go_iload_n 63 rfl 3 rfl rfl ?_
                  obtain ⟨r42, c, h⟩ := bd_inv h
                  refine go_callV1 _ 64 rfl (e_M_append c) mk_M_append (by first | decide | exact ok0 (by omega) | exact ok1 (by omega) | exact ok2 (by omega) | exact ok7 (by omega)) rfl cv_M_57 rfl ⟨(Nat.le_of_ble_eq_true rfl), (Nat.le_of_ble_eq_true rfl)⟩ (Nat.le_of_ble_eq_true rfl) rfl ?_
                  refine go_aload_n 65 rfl 0 rfl rfl ?_
                  refine go_iload_n 66 rfl 2 rfl rfl ?_
                  refine go_iload_n 67 rfl 3 rfl rfl ?_
                  obtain ⟨r43, c, h⟩ := bd_inv h
                  refine go_callV1 _ 68 rfl (e_M_append c) mk_M_append (by first | decide | exact ok0 (by omega) | exact ok1 (by omega) | exact ok2 (by omega) | exact ok7 (by omega)) rfl cv_M_57 rfl ⟨(Nat.le_of_ble_eq_true rfl), (Nat.le_of_ble_eq_true rfl)⟩ (Nat.le_of_ble_eq_true rfl) rfl ?_
                  refine go_aload_n 69 rfl 0 rfl rfl ?_
                  refine go_getfield 3 _ 70 rfl (by first | decide | exact ok0 (by omega) | exact ok1 (by omega) | exact ok2 (by omega) | exact ok7 (by omega)) rfl fg_M_16 rfl ?_
                  refine go_iload_n 71 rfl 3 rfl rfl ?_
                  obtain ⟨c, h⟩ := ck_inv h
                  refine go_iaload 72 rfl (by first | decide | exact ok0 (by omega) | exact ok1 (by omega) | exact ok2 (by omega) | exact ok7 (by omega)) (inb_vp c) ?_
                  cases h
                  exact go_ireturn 73 rfl rfl rfl ⟨rfl, rfl⟩
                · replace h := ite_f c h
                  refine go_iconst 0 50 rfl (by decide) ?_
                  cases h
                  exact go_ireturn 51 rfl rfl rfl ⟨rfl, rfl⟩
