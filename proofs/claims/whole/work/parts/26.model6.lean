def X_M_lead : MX := (⟨"OmegaDeskModel", "lead", "(III)V"⟩, prog_8_method_31_code, 11, none, { frames := 1, cells := 0, slots := 0, locals := 28 },
  [(0, .iload_n 3, 1), (1, .sipush 19683, 4), (4, .idiv, 5), (5, .iconst 2, 6), (6, .idiv, 7), (7, .istore 4, 9), (9, .iload_n 3, 10), (10, .sipush 19683, 13), (13, .idiv, 14), (14, .iconst 2, 15), (15, .irem, 16), (16, .istore 5, 18), (18, .aload_n 0, 19), (19, .iload_n 3, 20), (20, .sipush 19683, 23), (23, .irem, 24), (24, .invokevirtual 109, 27), (27, .iconst 0, 28), (28, .istore 6, 30), (30, .iload 6, 32), (32, .iconst 2, 33), (33, .if_icmp .ge 125, 36), (36, .aload_n 0, 37), (37, .iload_n 2, 38), (38, .iload 6, 40), (40, .invokevirtual 113, 43), (43, .istore 7, 45), (45, .iconst 0, 46), (46, .istore 8, 48), (48, .iload 8, 50), (50, .aload_n 0, 51), (51, .getfield 16, 54), (54, .iload_n 1, 55), (55, .iaload, 56), (56, .if_icmp .ge 96, 59), (59, .aload_n 0, 60), (60, .getfield 7, 63), (63, .bipush 8, 65), (65, .iload_n 1, 66), (66, .imul, 67), (67, .iconst 4, 68), (68, .iload 6, 70), (70, .imul, 71), (71, .iadd, 72), (72, .iload 4, 74), (74, .iadd, 75), (75, .iaload, 76), (76, .iload 8, 78), (78, .ishr, 79), (79, .iconst 1, 80), (80, .iand, 81), (81, .iconst 1, 82), (82, .if_icmp .ne 7, 85), (85, .iconst 1, 86), (86, .goto 4, 89), (89, .iconst 0, 90), (90, .istore 9, 92), (92, .iload 5, 94), (94, .iconst 1, 95), (95, .if_icmp .eq 18, 98), (98, .aload_n 0, 99), (99, .getfield 13, 102), (102, .iload_n 1, 103), (103, .iaload, 104), (104, .iload 8, 106), (106, .ishr, 107), (107, .iconst 1, 108), (108, .iand, 109), (109, .iconst 1, 110), (110, .if_icmp .ne 7, 113), (113, .iconst 1, 114), (114, .goto 4, 117), (117, .iconst 0, 118), (118, .istore 10, 120), (120, .iload 9, 122), (122, .ifCond .eq 24, 125), (125, .aload_n 0, 126), (126, .getfield 29, 129), (129, .sipush 19683, 132), (132, .iconst 2, 133), (133, .iload 8, 135), (135, .imul, 136), (136, .iload 10, 138), (138, .iadd, 139), (139, .imul, 140), (140, .iload 7, 142), (142, .iadd, 143), (143, .invokestatic 99, 146), (146, .iinc 8 1, 149), (149, .goto (-101), 152), (152, .iinc 6 1, 155), (155, .goto (-125), 158), (158, .return_, 159)])
set_option maxRecDepth 20000 in
theorem mk_M_lead : Mk X_M_lead := ⟨by unfold TBk; decide +kernel, by decide +kernel, wb_670, ⟨by decide, by decide⟩, rfl, rfl, wb_6⟩
theorem cv_M_109 : CV "OmegaDeskModel" 109 X_M_spread 1 8 := ⟨Or.inl wb_671, ⟨wb_673, ws_M_spread⟩, by decide +kernel, F_M, 12, rfl⟩
theorem cv_M_113 : CV "OmegaDeskModel" 113 X_M_longer 2 8 := ⟨Or.inl wb_675, ⟨wb_677, ws_M_longer⟩, by decide +kernel, F_M, 12, rfl⟩
theorem fg_M_29 : FG "OmegaDeskModel" 29 8 8 := ⟨R_M, F_M, 12, rfl, by decide, uw_M, Or.inl wb_533⟩
theorem cs_M_99 : CS "OmegaDeskModel" 99 X_M_mark 2 := ⟨Or.inl wb_664, wb_665, by decide +kernel⟩
def b_M_lead_48 (c1 : Int32) (c4 : Int32) (c5 : Int32) (c6 : Int32) (c7 : Int32) (s : Int32 × Mm) : Option ((Int32 × Mm) ⊕ (Int32 × Mm)) :=
  ck (inb c1 (lenI 18)) <|
  if (s.2.1 (1, 18) c1.toNatClampNeg) ≤ s.1 then
    some (Sum.inr (s.1, s.2))
  else
    ck (inb ((((8 : Int32) * c1) + ((4 : Int32) * c6)) + c4) (lenI 16)) <|
    if (((s.2.1 (1, 16) ((((8 : Int32) * c1) + ((4 : Int32) * c6)) + c4).toNatClampNeg) >>> (s.1 &&& 31)) &&& (1 : Int32)) = (1 : Int32) then
      if c5 = (1 : Int32) then
        bd (m_M_mark 2 (((19683 : Int32) * (((2 : Int32) * s.1) + (1 : Int32))) + c7) s.2) fun r4 =>
        some (Sum.inl ((s.1 + 1), r4))
      else
        ck (inb c1 (lenI 17)) <|
        if (((s.2.1 (1, 17) c1.toNatClampNeg) >>> (s.1 &&& 31)) &&& (1 : Int32)) = (1 : Int32) then
          bd (m_M_mark 2 (((19683 : Int32) * (((2 : Int32) * s.1) + (1 : Int32))) + c7) s.2) fun r6 =>
          some (Sum.inl ((s.1 + 1), r6))
        else
          bd (m_M_mark 2 (((19683 : Int32) * (((2 : Int32) * s.1) + (0 : Int32))) + c7) s.2) fun r5 =>
          some (Sum.inl ((s.1 + 1), r5))
    else
      if c5 = (1 : Int32) then
        some (Sum.inl ((s.1 + 1), s.2))
      else
        ck (inb c1 (lenI 17)) <|
        if (((s.2.1 (1, 17) c1.toNatClampNeg) >>> (s.1 &&& 31)) &&& (1 : Int32)) = (1 : Int32) then
          some (Sum.inl ((s.1 + 1), s.2))
        else
          some (Sum.inl ((s.1 + 1), s.2))
def b_M_lead_30 (c1 : Int32) (c2 : Int32) (c4 : Int32) (c5 : Int32) (s : Int32 × Mm) : Option ((Int32 × Mm) ⊕ (Int32 × Mm)) :=
  if (2 : Int32) ≤ s.1 then
    some (Sum.inr (s.1, s.2))
  else
    bd (m_M_longer c2 s.1 s.2) fun r3 =>
    bd (lp (b_M_lead_48 c1 c4 c5 s.1 r3.1) ((0 : Int32), r3.2)) fun r7 =>
    some (Sum.inl ((s.1 + 1), r7.2))
def m_M_lead (a1 : Int32) (a2 : Int32) (a3 : Int32) (M : Mm) : Option (Mm) :=
  bd (some ((a3 / (19683 : Int32)) - (a3 / (19683 : Int32)) / (2 : Int32) * (2 : Int32))) fun x1 =>
  bd (m_M_spread (a3 - a3 / (19683 : Int32) * (19683 : Int32)) M) fun r2 =>
  bd (lp (b_M_lead_30 a1 a2 ((a3 / (19683 : Int32)) / (2 : Int32)) x1) ((0 : Int32), r2)) fun r8 =>
  some r8.2
set_option maxRecDepth 20000 in
theorem w_M_lead_48 {l : Launch} {post : Option PV → Mm → Prop} (c1 : Int32) (c2 : Int32) (c3 : Int32) (c4 : Int32) (c5 : Int32) (c6 : Int32) (c7 : Int32)  {r : Int32 × Mm} (kk : Go l X_M_lead post 152 [(0, vr 8 0), (1, vi c1), (2, vi c2), (3, vi c3), (4, vi c4), (5, vi c5), (6, vi c6), (7, vi c7), (8, vi r.1)] [] r.2) : ∀ (n : Nat) (s : Int32 × Mm), lpN (b_M_lead_48 c1 c4 c5 c6 c7) n s = some r → Go l X_M_lead post 48 [(0, vr 8 0), (1, vi c1), (2, vi c2), (3, vi c3), (4, vi c4), (5, vi c5), (6, vi c6), (7, vi c7), (8, vi s.1)] [] s.2 := by
  intro n
  induction n with
  | zero => intro s hc; exact (lpN_0 hc).elim
  | succ n ih =>
    intro s hc
    obtain ⟨q, h, hc⟩ := lpN_inv hc
    unfold b_M_lead_48 at h
    refine go_iload 29 rfl 8 rfl ?_
    refine go_aload_n 30 rfl 0 rfl rfl ?_
    refine go_getfield 3 _ 31 rfl (by first | decide | exact ok0 (by omega) | exact ok1 (by omega) | exact ok2 (by omega) | exact ok7 (by omega)) rfl fg_M_16 rfl ?_
    refine go_iload_n 32 rfl 1 rfl rfl ?_
    obtain ⟨c, h⟩ := ck_inv h
    refine go_iaload 33 rfl (by first | decide | exact ok0 (by omega) | exact ok1 (by omega) | exact ok2 (by omega) | exact ok7 (by omega)) (inb_vp c) ?_
    refine go_icmp_ge 152 34 rfl (by decide) (fun c => ?_) (fun c => ?_)
    · replace h := ite_t c h
      cases h
      obtain rfl := lpq_r hc
      exact kk
    · replace h := ite_f c h
      refine go_aload_n 35 rfl 0 rfl rfl ?_
      refine go_getfield 1 _ 36 rfl (by first | decide | exact ok0 (by omega) | exact ok1 (by omega) | exact ok2 (by omega) | exact ok7 (by omega)) rfl fg_M_7 rfl ?_
      refine go_bipush 8 37 rfl (by decide) ?_
      refine go_iload_n 38 rfl 1 rfl rfl ?_
      refine go_imul 39 rfl ?_
      refine go_iconst 4 40 rfl (by decide) ?_
      refine go_iload 41 rfl 6 rfl ?_
      refine go_imul 42 rfl ?_
      refine go_iadd 43 rfl ?_
      refine go_iload 44 rfl 4 rfl ?_
      refine go_iadd 45 rfl ?_
      obtain ⟨c, h⟩ := ck_inv h
      refine go_iaload 46 rfl (by first | decide | exact ok0 (by omega) | exact ok1 (by omega) | exact ok2 (by omega) | exact ok7 (by omega)) (inb_vp c) ?_
      refine go_iload 47 rfl 8 rfl ?_
      refine go_ishr 48 rfl ?_
      refine go_iconst 1 49 rfl (by decide) ?_
      refine go_iand 50 rfl ?_
      refine go_iconst 1 51 rfl (by decide) ?_
      refine go_icmp_ne 89 52 rfl (by decide) (fun c => ?_) (fun c => ?_)
      · replace h := ite_f c h
        refine go_iconst 0 55 rfl (by decide) ?_
        refine go_istore 56 rfl (Nat.le_of_ble_eq_true rfl) [(0, _), (1, _), (2, _), (3, _), (4, _), (5, _), (6, _), (7, _), (8, _), (9, _)] rfl ?_
        refine go_iload 57 rfl 5 rfl ?_
        refine go_iconst 1 58 rfl (by decide) ?_
        refine go_icmp_eq 113 59 rfl (by decide) (fun c => ?_) (fun c => ?_)
        · replace h := ite_t c h
          refine go_iconst 1 70 rfl (by decide) ?_
          refine go_goto 118 71 rfl (by decide) ?_
          refine go_istore 73 rfl (Nat.le_of_ble_eq_true rfl) [(0, _), (1, _), (2, _), (3, _), (4, _), (5, _), (6, _), (7, _), (8, _), (9, _), (10, _)] rfl ?_
          refine go_iload 74 rfl 9 rfl ?_
          refine go_if_eq 146 75 rfl (by decide) (fun _ => ?_) (fun c => absurd c (by decide))
          refine go_iinc 1 88 rfl 8 rfl (by decide) (Nat.le_of_ble_eq_true rfl) [(0, _), (1, _), (2, _), (3, _), (4, _), (5, _), (6, _), (7, _), (8, _), (9, _), (10, _)] rfl ?_
          refine go_goto 48 89 rfl (by decide) ?_
          cases h
          refine go_sub [0, 1, 2, 3, 4, 5, 6, 7, 8] rfl ?_
          have g9 := ih _ hc
          exact g9
        · replace h := ite_f c h
          refine go_aload_n 60 rfl 0 rfl rfl ?_
          refine go_getfield 2 _ 61 rfl (by first | decide | exact ok0 (by omega) | exact ok1 (by omega) | exact ok2 (by omega) | exact ok7 (by omega)) rfl fg_M_13 rfl ?_
          refine go_iload_n 62 rfl 1 rfl rfl ?_
          obtain ⟨c, h⟩ := ck_inv h
          refine go_iaload 63 rfl (by first | decide | exact ok0 (by omega) | exact ok1 (by omega) | exact ok2 (by omega) | exact ok7 (by omega)) (inb_vp c) ?_
          refine go_iload 64 rfl 8 rfl ?_
          refine go_ishr 65 rfl ?_
          refine go_iconst 1 66 rfl (by decide) ?_
          refine go_iand 67 rfl ?_
          refine go_iconst 1 68 rfl (by decide) ?_
          refine go_icmp_ne 117 69 rfl (by decide) (fun c => ?_) (fun c => ?_)
          · replace h := ite_f c h
            refine go_iconst 0 72 rfl (by decide) ?_
            refine go_istore 73 rfl (Nat.le_of_ble_eq_true rfl) [(0, _), (1, _), (2, _), (3, _), (4, _), (5, _), (6, _), (7, _), (8, _), (9, _), (10, _)] rfl ?_
            refine go_iload 74 rfl 9 rfl ?_
            refine go_if_eq 146 75 rfl (by decide) (fun _ => ?_) (fun c => absurd c (by decide))
            refine go_iinc 1 88 rfl 8 rfl (by decide) (Nat.le_of_ble_eq_true rfl) [(0, _), (1, _), (2, _), (3, _), (4, _), (5, _), (6, _), (7, _), (8, _), (9, _), (10, _)] rfl ?_
            refine go_goto 48 89 rfl (by decide) ?_
            cases h
            refine go_sub [0, 1, 2, 3, 4, 5, 6, 7, 8] rfl ?_
            have g9 := ih _ hc
            exact g9
          · replace h := ite_t c h
            refine go_iconst 1 70 rfl (by decide) ?_
            refine go_goto 118 71 rfl (by decide) ?_
            refine go_istore 73 rfl (Nat.le_of_ble_eq_true rfl) [(0, _), (1, _), (2, _), (3, _), (4, _), (5, _), (6, _), (7, _), (8, _), (9, _), (10, _)] rfl ?_
            refine go_iload 74 rfl 9 rfl ?_
            refine go_if_eq 146 75 rfl (by decide) (fun _ => ?_) (fun c => absurd c (by decide))
            refine go_iinc 1 88 rfl 8 rfl (by decide) (Nat.le_of_ble_eq_true rfl) [(0, _), (1, _), (2, _), (3, _), (4, _), (5, _), (6, _), (7, _), (8, _), (9, _), (10, _)] rfl ?_
            refine go_goto 48 89 rfl (by decide) ?_
            cases h
            refine go_sub [0, 1, 2, 3, 4, 5, 6, 7, 8] rfl ?_
            have g9 := ih _ hc
            exact g9
      · replace h := ite_t c h
        refine go_iconst 1 53 rfl (by decide) ?_
        refine go_goto 90 54 rfl (by decide) ?_
        refine go_istore 56 rfl (Nat.le_of_ble_eq_true rfl) [(0, _), (1, _), (2, _), (3, _), (4, _), (5, _), (6, _), (7, _), (8, _), (9, _)] rfl ?_
        refine go_iload 57 rfl 5 rfl ?_
        refine go_iconst 1 58 rfl (by decide) ?_
        refine go_icmp_eq 113 59 rfl (by decide) (fun c => ?_) (fun c => ?_)
        · replace h := ite_t c h
          refine go_iconst 1 70 rfl (by decide) ?_
          refine go_goto 118 71 rfl (by decide) ?_
          refine go_istore 73 rfl (Nat.le_of_ble_eq_true rfl) [(0, _), (1, _), (2, _), (3, _), (4, _), (5, _), (6, _), (7, _), (8, _), (9, _), (10, _)] rfl ?_
          refine go_iload 74 rfl 9 rfl ?_
          refine go_if_eq 146 75 rfl (by decide) (fun c => absurd c (by decide)) (fun _ => ?_)
          refine go_aload_n 76 rfl 0 rfl rfl ?_
          refine go_getfield 8 _ 77 rfl (by first | decide | exact ok0 (by omega) | exact ok1 (by omega) | exact ok2 (by omega) | exact ok7 (by omega)) rfl fg_M_29 rfl ?_
          refine go_sipush 19683 78 rfl (by decide) ?_
          refine go_iconst 2 79 rfl (by decide) ?_
          refine go_iload 80 rfl 8 rfl ?_
          refine go_imul 81 rfl ?_
          refine go_iload 82 rfl 10 rfl ?_
          refine go_iadd 83 rfl ?_
          refine go_imul 84 rfl ?_
          refine go_iload 85 rfl 7 rfl ?_
          refine go_iadd 86 rfl ?_
          obtain ⟨r4, c, h⟩ := bd_inv h
          refine go_callS1 _ 87 rfl (e_M_mark (by omega) c) mk_M_mark cs_M_99 rfl ⟨(Nat.le_of_ble_eq_true rfl), (Nat.le_of_ble_eq_true rfl)⟩ (Nat.le_of_ble_eq_true rfl) rfl ?_
          refine go_iinc 1 88 rfl 8 rfl (by decide) (Nat.le_of_ble_eq_true rfl) [(0, _), (1, _), (2, _), (3, _), (4, _), (5, _), (6, _), (7, _), (8, _), (9, _), (10, _)] rfl ?_
          refine go_goto 48 89 rfl (by decide) ?_
          cases h
          refine go_sub [0, 1, 2, 3, 4, 5, 6, 7, 8] rfl ?_
          have g9 := ih _ hc
          exact g9
        · replace h := ite_f c h
          refine go_aload_n 60 rfl 0 rfl rfl ?_
          refine go_getfield 2 _ 61 rfl (by first | decide | exact ok0 (by omega) | exact ok1 (by omega) | exact ok2 (by omega) | exact ok7 (by omega)) rfl fg_M_13 rfl ?_
          refine go_iload_n 62 rfl 1 rfl rfl ?_
          obtain ⟨c, h⟩ := ck_inv h
          refine go_iaload 63 rfl (by first | decide | exact ok0 (by omega) | exact ok1 (by omega) | exact ok2 (by omega) | exact ok7 (by omega)) (inb_vp c) ?_
          refine go_iload 64 rfl 8 rfl ?_
          refine go_ishr 65 rfl ?_
          refine go_iconst 1 66 rfl (by decide) ?_
          refine go_iand 67 rfl ?_
          refine go_iconst 1 68 rfl (by decide) ?_
          refine go_icmp_ne 117 69 rfl (by decide) (fun c => ?_) (fun c => ?_)
          · replace h := ite_f c h
            refine go_iconst 0 72 rfl (by decide) ?_
            refine go_istore 73 rfl (Nat.le_of_ble_eq_true rfl) [(0, _), (1, _), (2, _), (3, _), (4, _), (5, _), (6, _), (7, _), (8, _), (9, _), (10, _)] rfl ?_
            refine go_iload 74 rfl 9 rfl ?_
            refine go_if_eq 146 75 rfl (by decide) (fun c => absurd c (by decide)) (fun _ => ?_)
            refine go_aload_n 76 rfl 0 rfl rfl ?_
            refine go_getfield 8 _ 77 rfl (by first | decide | exact ok0 (by omega) | exact ok1 (by omega) | exact ok2 (by omega) | exact ok7 (by omega)) rfl fg_M_29 rfl ?_
            refine go_sipush 19683 78 rfl (by decide) ?_
            refine go_iconst 2 79 rfl (by decide) ?_
            refine go_iload 80 rfl 8 rfl ?_
            refine go_imul 81 rfl ?_
            refine go_iload 82 rfl 10 rfl ?_
            refine go_iadd 83 rfl ?_
            refine go_imul 84 rfl ?_
            refine go_iload 85 rfl 7 rfl ?_
            refine go_iadd 86 rfl ?_
            obtain ⟨r5, c, h⟩ := bd_inv h
            refine go_callS1 _ 87 rfl (e_M_mark (by omega) c) mk_M_mark cs_M_99 rfl ⟨(Nat.le_of_ble_eq_true rfl), (Nat.le_of_ble_eq_true rfl)⟩ (Nat.le_of_ble_eq_true rfl) rfl ?_
            refine go_iinc 1 88 rfl 8 rfl (by decide) (Nat.le_of_ble_eq_true rfl) [(0, _), (1, _), (2, _), (3, _), (4, _), (5, _), (6, _), (7, _), (8, _), (9, _), (10, _)] rfl ?_
            refine go_goto 48 89 rfl (by decide) ?_
            cases h
            refine go_sub [0, 1, 2, 3, 4, 5, 6, 7, 8] rfl ?_
            have g9 := ih _ hc
            exact g9
          · replace h := ite_t c h
            refine go_iconst 1 70 rfl (by decide) ?_
            refine go_goto 118 71 rfl (by decide) ?_
            refine go_istore 73 rfl (Nat.le_of_ble_eq_true rfl) [(0, _), (1, _), (2, _), (3, _), (4, _), (5, _), (6, _), (7, _), (8, _), (9, _), (10, _)] rfl ?_
            refine go_iload 74 rfl 9 rfl ?_
            refine go_if_eq 146 75 rfl (by decide) (fun c => absurd c (by decide)) (fun _ => ?_)
            refine go_aload_n 76 rfl 0 rfl rfl ?_
            refine go_getfield 8 _ 77 rfl (by first | decide | exact ok0 (by omega) | exact ok1 (by omega) | exact ok2 (by omega) | exact ok7 (by omega)) rfl fg_M_29 rfl ?_
            refine go_sipush 19683 78 rfl (by decide) ?_
            refine go_iconst 2 79 rfl (by decide) ?_
            refine go_iload 80 rfl 8 rfl ?_
            refine go_imul 81 rfl ?_
            refine go_iload 82 rfl 10 rfl ?_
            refine go_iadd 83 rfl ?_
            refine go_imul 84 rfl ?_
            refine go_iload 85 rfl 7 rfl ?_
            refine go_iadd 86 rfl ?_
            obtain ⟨r6, c, h⟩ := bd_inv h
            refine go_callS1 _ 87 rfl (e_M_mark (by omega) c) mk_M_mark cs_M_99 rfl ⟨(Nat.le_of_ble_eq_true rfl), (Nat.le_of_ble_eq_true rfl)⟩ (Nat.le_of_ble_eq_true rfl) rfl ?_
            refine go_iinc 1 88 rfl 8 rfl (by decide) (Nat.le_of_ble_eq_true rfl) [(0, _), (1, _), (2, _), (3, _), (4, _), (5, _), (6, _), (7, _), (8, _), (9, _), (10, _)] rfl ?_
            refine go_goto 48 89 rfl (by decide) ?_
            cases h
            refine go_sub [0, 1, 2, 3, 4, 5, 6, 7, 8] rfl ?_
            have g9 := ih _ hc
            exact g9
set_option maxRecDepth 20000 in
theorem w_M_lead_30 {l : Launch} {post : Option PV → Mm → Prop} (c1 : Int32) (c2 : Int32) (c3 : Int32) (c4 : Int32) (c5 : Int32)  {r : Int32 × Mm} (kk : Go l X_M_lead post 158 [(0, vr 8 0), (1, vi c1), (2, vi c2), (3, vi c3), (4, vi c4), (5, vi c5), (6, vi r.1)] [] r.2) : ∀ (n : Nat) (s : Int32 × Mm), lpN (b_M_lead_30 c1 c2 c4 c5) n s = some r → Go l X_M_lead post 30 [(0, vr 8 0), (1, vi c1), (2, vi c2), (3, vi c3), (4, vi c4), (5, vi c5), (6, vi s.1)] [] s.2 := by
  intro n
  induction n with
  | zero => intro s hc; exact (lpN_0 hc).elim
  | succ n ih =>
    intro s hc
    obtain ⟨q, h, hc⟩ := lpN_inv hc
    unfold b_M_lead_30 at h
    refine go_iload 19 rfl 6 rfl ?_
    refine go_iconst 2 20 rfl (by decide) ?_
    refine go_icmp_ge 158 21 rfl (by decide) (fun c => ?_) (fun c => ?_)
    · replace h := ite_t c h
      cases h
      obtain rfl := lpq_r hc
      exact kk
    · replace h := ite_f c h
      refine go_aload_n 22 rfl 0 rfl rfl ?_
      refine go_iload_n 23 rfl 2 rfl rfl ?_
      refine go_iload 24 rfl 6 rfl ?_
      obtain ⟨r3, c, h⟩ := bd_inv h
      refine go_callV1 _ 25 rfl (e_M_longer c) mk_M_longer (by first | decide | exact ok0 (by omega) | exact ok1 (by omega) | exact ok2 (by omega) | exact ok7 (by omega)) rfl cv_M_113 rfl ⟨(Nat.le_of_ble_eq_true rfl), (Nat.le_of_ble_eq_true rfl)⟩ (Nat.le_of_ble_eq_true rfl) rfl ?_
      refine go_istore 26 rfl (Nat.le_of_ble_eq_true rfl) [(0, _), (1, _), (2, _), (3, _), (4, _), (5, _), (6, _), (7, _)] rfl ?_
      refine go_iconst 0 27 rfl (by decide) ?_
      refine go_istore 28 rfl (Nat.le_of_ble_eq_true rfl) [(0, _), (1, _), (2, _), (3, _), (4, _), (5, _), (6, _), (7, _), (8, _)] rfl ?_
      obtain ⟨r7, c, h⟩ := bd_inv h
      refine w_M_lead_48 _ _ _ _ _ _ _ ?_ _ _ c
      refine go_iinc 1 90 rfl 6 rfl (by decide) (Nat.le_of_ble_eq_true rfl) [(0, _), (1, _), (2, _), (3, _), (4, _), (5, _), (6, _), (7, _), (8, _)] rfl ?_
      refine go_goto 30 91 rfl (by decide) ?_
      cases h
      refine go_sub [0, 1, 2, 3, 4, 5, 6] rfl ?_
      have g9 := ih _ hc
      exact g9
set_option maxRecDepth 20000 in
theorem e_M_lead {l : Launch} {a1 : Int32} {a2 : Int32} {a3 : Int32} {M : Mm} {r : Mm}  (h : m_M_lead a1 a2 a3 M = some r) : Ev l X_M_lead [vr 8 0, vi a1, vi a2, vi a3] M (fun v M2 => v = none ∧ M2 = r) := by
  refine Ev.of mk_M_lead [(0, vr 8 0), (1, vi a1), (2, vi a2), (3, vi a3)] (fun _ => rfl) (fun _ => (Nat.le_of_ble_eq_true rfl)) ?_
  unfold m_M_lead at h
  refine go_iload_n 0 rfl 3 rfl rfl ?_
  refine go_sipush 19683 1 rfl (by decide) ?_
  refine go_idiv 2 rfl (by decide) ?_
  refine go_iconst 2 3 rfl (by decide) ?_
  refine go_idiv 4 rfl (by decide) ?_
  refine go_istore 5 rfl (Nat.le_of_ble_eq_true rfl) [(0, _), (1, _), (2, _), (3, _), (4, _)] rfl ?_
  refine go_iload_n 6 rfl 3 rfl rfl ?_
  refine go_sipush 19683 7 rfl (by decide) ?_
  refine go_idiv 8 rfl (by decide) ?_
  refine go_iconst 2 9 rfl (by decide) ?_
  refine go_irem 10 rfl (by decide) ?_
  obtain ⟨_, c, h⟩ := bd_inv h
  cases c
  refine go_istore 11 rfl (Nat.le_of_ble_eq_true rfl) [(0, _), (1, _), (2, _), (3, _), (4, _), (5, _)] rfl ?_
  refine go_aload_n 12 rfl 0 rfl rfl ?_
  refine go_iload_n 13 rfl 3 rfl rfl ?_
  refine go_sipush 19683 14 rfl (by decide) ?_
  refine go_irem 15 rfl (by decide) ?_
  obtain ⟨r2, c, h⟩ := bd_inv h
  refine go_callV1 _ 16 rfl (e_M_spread c) mk_M_spread (by first | decide | exact ok0 (by omega) | exact ok1 (by omega) | exact ok2 (by omega) | exact ok7 (by omega)) rfl cv_M_109 rfl ⟨(Nat.le_of_ble_eq_true rfl), (Nat.le_of_ble_eq_true rfl)⟩ (Nat.le_of_ble_eq_true rfl) rfl ?_
  refine go_iconst 0 17 rfl (by decide) ?_
  refine go_istore 18 rfl (Nat.le_of_ble_eq_true rfl) [(0, _), (1, _), (2, _), (3, _), (4, _), (5, _), (6, _)] rfl ?_
  obtain ⟨r8, c, h⟩ := bd_inv h
  refine w_M_lead_30 _ _ _ _ _ ?_ _ _ c
  cases h
  exact go_return 92 rfl rfl ⟨rfl, rfl⟩
def X_M_gather : MX := (⟨"OmegaDeskModel", "gather", "(III)V"⟩, prog_8_method_29_code, 8, none, { frames := 2, cells := 0, slots := 0, locals := 58 },
  [(0, .iconst 0, 1), (1, .istore 4, 3), (3, .iload 4, 5), (5, .sipush 2461, 8), (8, .if_icmp .ge 25, 11), (11, .aload_n 0, 12), (12, .getfield 22, 15), (15, .iload 4, 17), (17, .lconst 0, 18), (18, .lastore, 19), (19, .aload_n 0, 20), (20, .getfield 26, 23), (23, .iload 4, 25), (25, .lconst 0, 26), (26, .lastore, 27), (27, .iinc 4 1, 30), (30, .goto (-27), 33), (33, .iconst 0, 34), (34, .istore 4, 36), (36, .iconst 2, 37), (37, .istore 5, 39), (39, .iload 5, 41), (41, .ifCond .lt 37, 44), (44, .iload 5, 46), (46, .aload_n 0, 47), (47, .getfield 16, 50), (50, .iload_n 2, 51), (51, .iaload, 52), (52, .if_icmp .ge 16, 55), (55, .iload 4, 57), (57, .iconst 4, 58), (58, .iload 5, 60), (60, .imul, 61), (61, .invokestatic 96, 64), (64, .iadd, 65), (65, .goto 5, 68), (68, .iload 4, 70), (70, .istore 4, 72), (72, .iinc 5 (-1), 75), (75, .goto (-36), 78), (78, .aload_n 0, 79), (79, .getfield 26, 82), (82, .sipush 19683, 85), (85, .iconst 2, 86), (86, .iload_n 3, 87), (87, .imul, 88), (88, .imul, 89), (89, .iload 4, 91), (91, .iadd, 92), (92, .invokestatic 99, 95), (95, .iconst 1, 96), (96, .istore 5, 98), (98, .iload 5, 100), (100, .ifCond .eq 199, 103), (103, .iconst 0, 104), (104, .istore 6, 106), (106, .iload 6, 108), (108, .sipush 2461, 111), (111, .if_icmp .ge 39, 114), (114, .aload_n 0, 115), (115, .getfield 22, 118), (118, .iload 6, 120), (120, .aload_n 0, 121), (121, .getfield 22, 124), (124, .iload 6, 126), (126, .laload, 127), (127, .aload_n 0, 128), (128, .getfield 26, 131), (131, .iload 6, 133), (133, .laload, 134), (134, .lor, 135), (135, .lastore, 136), (136, .aload_n 0, 137), (137, .getfield 29, 140), (140, .iload 6, 142), (142, .lconst 0, 143), (143, .lastore, 144), (144, .iinc 6 1, 147), (147, .goto (-41), 150), (150, .iconst 0, 151), (151, .istore 6, 153), (153, .iload 6, 155), (155, .sipush 2461, 158), (158, .if_icmp .ge 68, 161), (161, .iconst 0, 162), (162, .istore 7, 164), (164, .iload 7, 166), (166, .bipush 64, 168), (168, .if_icmp .ge 52, 171), (171, .aload_n 0, 172), (172, .getfield 26, 175), (175, .iload 6, 177), (177, .laload, 178), (178, .lconst 0, 179), (179, .lcmp, 180), (180, .ifCond .eq 40, 183), (183, .aload_n 0, 184), (184, .getfield 26, 187), (187, .iload 6, 189), (189, .laload, 190), (190, .iload 7, 192), (192, .lshr, 193), (193, .lconst 1, 194), (194, .land, 195), (195, .lconst 1, 196), (196, .lcmp, 197), (197, .ifCond .ne 17, 200), (200, .aload_n 0, 201), (201, .iload_n 1, 202), (202, .iload_n 2, 203), (203, .bipush 64, 205), (205, .iload 6, 207), (207, .imul, 208), (208, .iload 7, 210), (210, .iadd, 211), (211, .invokevirtual 103, 214), (214, .iinc 7 1, 217), (217, .goto (-53), 220), (220, .iinc 6 1, 223), (223, .goto (-70), 226), (226, .iconst 0, 227), (227, .istore 5, 229), (229, .iconst 0, 230), (230, .istore 6, 232), (232, .iload 6, 234), (234, .sipush 2461, 237), (237, .if_icmp .ge 59, 240), (240, .aload_n 0, 241), (241, .getfield 26, 244), (244, .iload 6, 246), (246, .aload_n 0, 247), (247, .getfield 29, 250), (250, .iload 6, 252), (252, .laload, 253), (253, .aload_n 0, 254), (254, .getfield 22, 257), (257, .iload 6, 259), (259, .laload, 260), (260, .ldc2_w 107, 263), (263, .lxor, 264), (264, .land, 265), (265, .lastore, 266), (266, .iload 5, 268), (268, .ifCond .ne 15, 271), (271, .aload_n 0, 272), (272, .getfield 26, 275), (275, .iload 6, 277), (277, .laload, 278), (278, .lconst 0, 279), (279, .lcmp, 280), (280, .ifCond .eq 7, 283), (283, .iconst 1, 284), (284, .goto 4, 287), (287, .iconst 0, 288), (288, .istore 5, 290), (290, .iinc 6 1, 293), (293, .goto (-61), 296), (296, .goto (-198), 299), (299, .return_, 300)])
set_option maxRecDepth 20000 in
theorem mk_M_gather : Mk X_M_gather := ⟨by unfold TBk; decide +kernel, by decide +kernel, wb_660, ⟨by decide, by decide⟩, rfl, rfl, wb_6⟩
theorem fg_M_22 : FG "OmegaDeskModel" 22 8 6 := ⟨R_M, F_M, 12, rfl, by decide, uw_M, Or.inl wb_531⟩
theorem fg_M_26 : FG "OmegaDeskModel" 26 8 7 := ⟨R_M, F_M, 12, rfl, by decide, uw_M, Or.inl wb_532⟩
theorem cs_M_96 : CS "OmegaDeskModel" 96 X_M_power 1 := ⟨Or.inl wb_661, wb_662, by decide +kernel⟩
theorem cv_M_103 : CV "OmegaDeskModel" 103 X_M_lead 3 8 := ⟨Or.inl wb_667, ⟨wb_669, ws_M_lead⟩, by decide +kernel, F_M, 12, rfl⟩
def b_M_gather_3 (s : Int32 × Mm) : Option ((Int32 × Mm) ⊕ (Int32 × Mm)) :=
  if (2461 : Int32) ≤ s.1 then
    some (Sum.inr (s.1, s.2))
  else
    ck (inb s.1 (lenL 0)) <|
    bd (some (uL s.2 (2, 0) s.1.toNatClampNeg (0 : Int64))) fun M1 =>
    ck (inb s.1 (lenL 1)) <|
    bd (some (uL M1 (2, 1) s.1.toNatClampNeg (0 : Int64))) fun M2 =>
    some (Sum.inl ((s.1 + 1), M2))
def b_M_gather_39 (c2 : Int32) (M : Mm) (s : Int32 × Int32) : Option ((Int32 × Int32) ⊕ (Int32 × Int32)) :=
  if s.2 < 0 then
    some (Sum.inr (s.1, s.2))
  else
    ck (inb c2 (lenI 18)) <|
    if (M.1 (1, 18) c2.toNatClampNeg) ≤ s.2 then
      some (Sum.inl (s.1, (s.2 + (-1))))
    else
      bd (m_M_power ((4 : Int32) * s.2)) fun r4 =>
      some (Sum.inl ((s.1 + r4), (s.2 + (-1))))
def b_M_gather_106 (s : Int32 × Mm) : Option ((Int32 × Mm) ⊕ (Int32 × Mm)) :=
  if (2461 : Int32) ≤ s.1 then
    some (Sum.inr (s.1, s.2))
  else
    ck (inb s.1 (lenL 0)) <|
    ck (inb s.1 (lenL 1)) <|
    ck (inb s.1 (lenL 0)) <|
    bd (some (uL s.2 (2, 0) s.1.toNatClampNeg ((s.2.2 (2, 0) s.1.toNatClampNeg) ||| (s.2.2 (2, 1) s.1.toNatClampNeg)))) fun M7 =>
    ck (inb s.1 (lenL 2)) <|
    bd (some (uL M7 (2, 2) s.1.toNatClampNeg (0 : Int64))) fun M8 =>
    some (Sum.inl ((s.1 + 1), M8))
def b_M_gather_164 (c1 : Int32) (c2 : Int32) (c6 : Int32) (s : Int32 × Mm) : Option ((Int32 × Mm) ⊕ (Int32 × Mm)) :=
  if (64 : Int32) ≤ s.1 then
    some (Sum.inr (s.1, s.2))
  else
    ck (inb c6 (lenL 1)) <|
    if (lg_cmp (s.2.2 (2, 1) c6.toNatClampNeg) (0 : Int64)) = 0 then
      some (Sum.inr (s.1, s.2))
    else
      ck (inb c6 (lenL 1)) <|
      if (lg_cmp (((s.2.2 (2, 1) c6.toNatClampNeg) >>> (s.1.toInt64 &&& 63)) &&& (1 : Int64)) (1 : Int64)) = 0 then
        bd (m_M_lead c1 c2 (((64 : Int32) * c6) + s.1) s.2) fun r10 =>
        some (Sum.inl ((s.1 + 1), r10))
      else
        some (Sum.inl ((s.1 + 1), s.2))
def b_M_gather_153 (c1 : Int32) (c2 : Int32) (s : Int32 × Mm) : Option ((Int32 × Mm) ⊕ (Int32 × Mm)) :=
  if (2461 : Int32) ≤ s.1 then
    some (Sum.inr (s.1, s.2))
  else
    bd (lp (b_M_gather_164 c1 c2 s.1) ((0 : Int32), s.2)) fun r11 =>
    some (Sum.inl ((s.1 + 1), r11.2))
def b_M_gather_232 (s : Int32 × Int32 × Mm) : Option ((Int32 × Int32 × Mm) ⊕ (Int32 × Int32 × Mm)) :=
  if (2461 : Int32) ≤ s.2.1 then
    some (Sum.inr (s.1, s.2.1, s.2.2))
  else
    ck (inb s.2.1 (lenL 2)) <|
    ck (inb s.2.1 (lenL 0)) <|
    ck (inb s.2.1 (lenL 1)) <|
    bd (some (uL s.2.2 (2, 1) s.2.1.toNatClampNeg ((s.2.2.2 (2, 2) s.2.1.toNatClampNeg) &&& ((s.2.2.2 (2, 0) s.2.1.toNatClampNeg) ^^^ (-1 : Int64))))) fun M13 =>
    if s.1 = 0 then
      ck (inb s.2.1 (lenL 1)) <|
      if (lg_cmp (M13.2 (2, 1) s.2.1.toNatClampNeg) (0 : Int64)) = 0 then
        some (Sum.inl ((0 : Int32), (s.2.1 + 1), M13))
      else
        some (Sum.inl ((1 : Int32), (s.2.1 + 1), M13))
    else
      some (Sum.inl ((1 : Int32), (s.2.1 + 1), M13))
def b_M_gather_98 (c1 : Int32) (c2 : Int32) (s : Int32 × Mm) : Option ((Int32 × Mm) ⊕ (Int32 × Mm)) :=
  if s.1 = 0 then
    some (Sum.inr (s.1, s.2))
  else
    bd (lp (b_M_gather_106) ((0 : Int32), s.2)) fun r9 =>
    bd (lp (b_M_gather_153 c1 c2) ((0 : Int32), r9.2)) fun r12 =>
    bd (lp (b_M_gather_232) ((0 : Int32), (0 : Int32), r12.2)) fun r14 =>
    some (Sum.inl (r14.1, r14.2.2))
def m_M_gather (a1 : Int32) (a2 : Int32) (a3 : Int32) (M : Mm) : Option (Mm) :=
  bd (lp (b_M_gather_3) ((0 : Int32), M)) fun r3 =>
  bd (lp (b_M_gather_39 a2 r3.2) ((0 : Int32), (2 : Int32))) fun r5 =>
  bd (m_M_mark 1 (((19683 : Int32) * ((2 : Int32) * a3)) + r5.1) r3.2) fun r6 =>
  bd (lp (b_M_gather_98 a1 a2) ((1 : Int32), r6)) fun r15 =>
  some r15.2
set_option maxRecDepth 20000 in
theorem w_M_gather_3 {l : Launch} {post : Option PV → Mm → Prop} (c1 : Int32) (c2 : Int32) (c3 : Int32)  {r : Int32 × Mm} (kk : Go l X_M_gather post 33 [(0, vr 8 0), (1, vi c1), (2, vi c2), (3, vi c3), (4, vi r.1)] [] r.2) : ∀ (n : Nat) (s : Int32 × Mm), lpN (b_M_gather_3) n s = some r → Go l X_M_gather post 3 [(0, vr 8 0), (1, vi c1), (2, vi c2), (3, vi c3), (4, vi s.1)] [] s.2 := by
  intro n
  induction n with
  | zero => intro s hc; exact (lpN_0 hc).elim
  | succ n ih =>
    intro s hc
    obtain ⟨q, h, hc⟩ := lpN_inv hc
    unfold b_M_gather_3 at h
    refine go_iload 2 rfl 4 rfl ?_
    refine go_sipush 2461 3 rfl (by decide) ?_
    refine go_icmp_ge 33 4 rfl (by decide) (fun c => ?_) (fun c => ?_)
    · replace h := ite_t c h
      cases h
      obtain rfl := lpq_r hc
      exact kk
    · replace h := ite_f c h
      refine go_aload_n 5 rfl 0 rfl rfl ?_
      refine go_getfield 6 _ 6 rfl (by first | decide | exact ok0 (by omega) | exact ok1 (by omega) | exact ok2 (by omega) | exact ok7 (by omega)) rfl fg_M_22 rfl ?_
      refine go_iload 7 rfl 4 rfl ?_
      refine go_lconst 0 8 rfl (by decide) ?_
      obtain ⟨c, h⟩ := ck_inv h
      refine go_lastore 9 rfl (by first | decide | exact ok0 (by omega) | exact ok1 (by omega) | exact ok2 (by omega) | exact ok7 (by omega)) (inb_vp c) ?_
      obtain ⟨_, c, h⟩ := bd_inv h
      cases c
      refine go_aload_n 10 rfl 0 rfl rfl ?_
      refine go_getfield 7 _ 11 rfl (by first | decide | exact ok0 (by omega) | exact ok1 (by omega) | exact ok2 (by omega) | exact ok7 (by omega)) rfl fg_M_26 rfl ?_
      refine go_iload 12 rfl 4 rfl ?_
      refine go_lconst 0 13 rfl (by decide) ?_
      obtain ⟨c, h⟩ := ck_inv h
      refine go_lastore 14 rfl (by first | decide | exact ok0 (by omega) | exact ok1 (by omega) | exact ok2 (by omega) | exact ok7 (by omega)) (inb_vp c) ?_
      obtain ⟨_, c, h⟩ := bd_inv h
      cases c
      refine go_iinc 1 15 rfl 4 rfl (by decide) (Nat.le_of_ble_eq_true rfl) [(0, _), (1, _), (2, _), (3, _), (4, _)] rfl ?_
      refine go_goto 3 16 rfl (by decide) ?_
      cases h
      have g9 := ih _ hc
      exact g9
set_option maxRecDepth 20000 in
theorem w_M_gather_39 {l : Launch} {post : Option PV → Mm → Prop} (c1 : Int32) (c2 : Int32) (c3 : Int32) (M : Mm)  {r : Int32 × Int32} (kk : Go l X_M_gather post 78 [(0, vr 8 0), (1, vi c1), (2, vi c2), (3, vi c3), (4, vi r.1), (5, vi r.2)] [] M) : ∀ (n : Nat) (s : Int32 × Int32), lpN (b_M_gather_39 c2 M) n s = some r → Go l X_M_gather post 39 [(0, vr 8 0), (1, vi c1), (2, vi c2), (3, vi c3), (4, vi s.1), (5, vi s.2)] [] M := by
  intro n
  induction n with
  | zero => intro s hc; exact (lpN_0 hc).elim
  | succ n ih =>
    intro s hc
    obtain ⟨q, h, hc⟩ := lpN_inv hc
    unfold b_M_gather_39 at h
    refine go_iload 21 rfl 5 rfl ?_
    refine go_if_lt 78 22 rfl (by decide) (fun c => ?_) (fun c => ?_)
    · replace h := ite_t c h
      cases h
      obtain rfl := lpq_r hc
      exact kk
    · replace h := ite_f c h
      refine go_iload 23 rfl 5 rfl ?_
      refine go_aload_n 24 rfl 0 rfl rfl ?_
      refine go_getfield 3 _ 25 rfl (by first | decide | exact ok0 (by omega) | exact ok1 (by omega) | exact ok2 (by omega) | exact ok7 (by omega)) rfl fg_M_16 rfl ?_
      refine go_iload_n 26 rfl 2 rfl rfl ?_
      obtain ⟨c, h⟩ := ck_inv h
      refine go_iaload 27 rfl (by first | decide | exact ok0 (by omega) | exact ok1 (by omega) | exact ok2 (by omega) | exact ok7 (by omega)) (inb_vp c) ?_
      refine go_icmp_ge 68 28 rfl (by decide) (fun c => ?_) (fun c => ?_)
      · replace h := ite_t c h
        refine go_iload 36 rfl 4 rfl ?_
        refine go_istore 37 rfl (Nat.le_of_ble_eq_true rfl) [(0, _), (1, _), (2, _), (3, _), (4, _), (5, _)] rfl ?_
        refine go_iinc (-1) 38 rfl 5 rfl (by decide) (Nat.le_of_ble_eq_true rfl) [(0, _), (1, _), (2, _), (3, _), (4, _), (5, _)] rfl ?_
        refine go_goto 39 39 rfl (by decide) ?_
        cases h
        have g9 := ih _ hc
        exact g9
      · replace h := ite_f c h
        refine go_iload 29 rfl 4 rfl ?_
        refine go_iconst 4 30 rfl (by decide) ?_
        refine go_iload 31 rfl 5 rfl ?_
        refine go_imul 32 rfl ?_
        obtain ⟨r4, c, h⟩ := bd_inv h
        refine go_callS1 _ 33 rfl (e_M_power c) mk_M_power cs_M_96 rfl ⟨(Nat.le_of_ble_eq_true rfl), (Nat.le_of_ble_eq_true rfl)⟩ (Nat.le_of_ble_eq_true rfl) rfl ?_
        refine go_iadd 34 rfl ?_
        refine go_goto 70 35 rfl (by decide) ?_
        refine go_istore 37 rfl (Nat.le_of_ble_eq_true rfl) [(0, _), (1, _), (2, _), (3, _), (4, _), (5, _)] rfl ?_
        refine go_iinc (-1) 38 rfl 5 rfl (by decide) (Nat.le_of_ble_eq_true rfl) [(0, _), (1, _), (2, _), (3, _), (4, _), (5, _)] rfl ?_
        refine go_goto 39 39 rfl (by decide) ?_
        cases h
        have g9 := ih _ hc
        exact g9
set_option maxRecDepth 20000 in
theorem w_M_gather_106 {l : Launch} {post : Option PV → Mm → Prop} (c1 : Int32) (c2 : Int32) (c3 : Int32) (c4 : Int32) (c5 : Int32)  {r : Int32 × Mm} (kk : Go l X_M_gather post 150 [(0, vr 8 0), (1, vi c1), (2, vi c2), (3, vi c3), (4, vi c4), (5, vi c5), (6, vi r.1)] [] r.2) : ∀ (n : Nat) (s : Int32 × Mm), lpN (b_M_gather_106) n s = some r → Go l X_M_gather post 106 [(0, vr 8 0), (1, vi c1), (2, vi c2), (3, vi c3), (4, vi c4), (5, vi c5), (6, vi s.1)] [] s.2 := by
  intro n
  induction n with
  | zero => intro s hc; exact (lpN_0 hc).elim
  | succ n ih =>
    intro s hc
    obtain ⟨q, h, hc⟩ := lpN_inv hc
    unfold b_M_gather_106 at h
    refine go_iload 56 rfl 6 rfl ?_
    refine go_sipush 2461 57 rfl (by decide) ?_
    refine go_icmp_ge 150 58 rfl (by decide) (fun c => ?_) (fun c => ?_)
    · replace h := ite_t c h
      cases h
      obtain rfl := lpq_r hc
      exact kk
    · replace h := ite_f c h
      refine go_aload_n 59 rfl 0 rfl rfl ?_
      refine go_getfield 6 _ 60 rfl (by first | decide | exact ok0 (by omega) | exact ok1 (by omega) | exact ok2 (by omega) | exact ok7 (by omega)) rfl fg_M_22 rfl ?_
      refine go_iload 61 rfl 6 rfl ?_
      refine go_aload_n 62 rfl 0 rfl rfl ?_
      refine go_getfield 6 _ 63 rfl (by first | decide | exact ok0 (by omega) | exact ok1 (by omega) | exact ok2 (by omega) | exact ok7 (by omega)) rfl fg_M_22 rfl ?_
      refine go_iload 64 rfl 6 rfl ?_
      obtain ⟨c, h⟩ := ck_inv h
      refine go_laload 65 rfl (by first | decide | exact ok0 (by omega) | exact ok1 (by omega) | exact ok2 (by omega) | exact ok7 (by omega)) (inb_vp c) ?_
      refine go_aload_n 66 rfl 0 rfl rfl ?_
      refine go_getfield 7 _ 67 rfl (by first | decide | exact ok0 (by omega) | exact ok1 (by omega) | exact ok2 (by omega) | exact ok7 (by omega)) rfl fg_M_26 rfl ?_
      refine go_iload 68 rfl 6 rfl ?_
      obtain ⟨c, h⟩ := ck_inv h
      refine go_laload 69 rfl (by first | decide | exact ok0 (by omega) | exact ok1 (by omega) | exact ok2 (by omega) | exact ok7 (by omega)) (inb_vp c) ?_
      refine go_lor 70 rfl ?_
      obtain ⟨c, h⟩ := ck_inv h
      refine go_lastore 71 rfl (by first | decide | exact ok0 (by omega) | exact ok1 (by omega) | exact ok2 (by omega) | exact ok7 (by omega)) (inb_vp c) ?_
      obtain ⟨_, c, h⟩ := bd_inv h
      cases c
      refine go_aload_n 72 rfl 0 rfl rfl ?_
      refine go_getfield 8 _ 73 rfl (by first | decide | exact ok0 (by omega) | exact ok1 (by omega) | exact ok2 (by omega) | exact ok7 (by omega)) rfl fg_M_29 rfl ?_
      refine go_iload 74 rfl 6 rfl ?_
      refine go_lconst 0 75 rfl (by decide) ?_
      obtain ⟨c, h⟩ := ck_inv h
      refine go_lastore 76 rfl (by first | decide | exact ok0 (by omega) | exact ok1 (by omega) | exact ok2 (by omega) | exact ok7 (by omega)) (inb_vp c) ?_
      obtain ⟨_, c, h⟩ := bd_inv h
      cases c
      refine go_iinc 1 77 rfl 6 rfl (by decide) (Nat.le_of_ble_eq_true rfl) [(0, _), (1, _), (2, _), (3, _), (4, _), (5, _), (6, _)] rfl ?_
      refine go_goto 106 78 rfl (by decide) ?_
      cases h
      have g9 := ih _ hc
      exact g9
set_option maxRecDepth 20000 in
theorem w_M_gather_164 {l : Launch} {post : Option PV → Mm → Prop} (c1 : Int32) (c2 : Int32) (c3 : Int32) (c4 : Int32) (c5 : Int32) (c6 : Int32)  {r : Int32 × Mm} (kk : Go l X_M_gather post 220 [(0, vr 8 0), (1, vi c1), (2, vi c2), (3, vi c3), (4, vi c4), (5, vi c5), (6, vi c6), (7, vi r.1)] [] r.2) : ∀ (n : Nat) (s : Int32 × Mm), lpN (b_M_gather_164 c1 c2 c6) n s = some r → Go l X_M_gather post 164 [(0, vr 8 0), (1, vi c1), (2, vi c2), (3, vi c3), (4, vi c4), (5, vi c5), (6, vi c6), (7, vi s.1)] [] s.2 := by
  intro n
  induction n with
  | zero => intro s hc; exact (lpN_0 hc).elim
  | succ n ih =>
    intro s hc
    obtain ⟨q, h, hc⟩ := lpN_inv hc
    unfold b_M_gather_164 at h
    refine go_iload 86 rfl 7 rfl ?_
    refine go_bipush 64 87 rfl (by decide) ?_
    refine go_icmp_ge 220 88 rfl (by decide) (fun c => ?_) (fun c => ?_)
    · replace h := ite_t c h
      cases h
      obtain rfl := lpq_r hc
      exact kk
    · replace h := ite_f c h
      refine go_aload_n 89 rfl 0 rfl rfl ?_
      refine go_getfield 7 _ 90 rfl (by first | decide | exact ok0 (by omega) | exact ok1 (by omega) | exact ok2 (by omega) | exact ok7 (by omega)) rfl fg_M_26 rfl ?_
      refine go_iload 91 rfl 6 rfl ?_
      obtain ⟨c, h⟩ := ck_inv h
      refine go_laload 92 rfl (by first | decide | exact ok0 (by omega) | exact ok1 (by omega) | exact ok2 (by omega) | exact ok7 (by omega)) (inb_vp c) ?_
      refine go_lconst 0 93 rfl (by decide) ?_
      refine go_lcmp 94 rfl ?_
      refine go_if_eq 220 95 rfl (by decide) (fun c => ?_) (fun c => ?_)
      · replace h := ite_t c h
        cases h
        obtain rfl := lpq_r hc
        exact kk
      · replace h := ite_f c h
        refine go_aload_n 96 rfl 0 rfl rfl ?_
        refine go_getfield 7 _ 97 rfl (by first | decide | exact ok0 (by omega) | exact ok1 (by omega) | exact ok2 (by omega) | exact ok7 (by omega)) rfl fg_M_26 rfl ?_
        refine go_iload 98 rfl 6 rfl ?_
        obtain ⟨c, h⟩ := ck_inv h
        refine go_laload 99 rfl (by first | decide | exact ok0 (by omega) | exact ok1 (by omega) | exact ok2 (by omega) | exact ok7 (by omega)) (inb_vp c) ?_
        refine go_iload 100 rfl 7 rfl ?_
        refine go_lshr 101 rfl ?_
        refine go_lconst 1 102 rfl (by decide) ?_
        refine go_land 103 rfl ?_
        refine go_lconst 1 104 rfl (by decide) ?_
        refine go_lcmp 105 rfl ?_
        refine go_if_ne 214 106 rfl (by decide) (fun c => ?_) (fun c => ?_)
        · replace h := ite_f c h
          refine go_iinc 1 116 rfl 7 rfl (by decide) (Nat.le_of_ble_eq_true rfl) [(0, _), (1, _), (2, _), (3, _), (4, _), (5, _), (6, _), (7, _)] rfl ?_
          refine go_goto 164 117 rfl (by decide) ?_
          cases h
          have g9 := ih _ hc
          exact g9
        · replace h := ite_t c h
          refine go_aload_n 107 rfl 0 rfl rfl ?_
          refine go_iload_n 108 rfl 1 rfl rfl ?_
          refine go_iload_n 109 rfl 2 rfl rfl ?_
          refine go_bipush 64 110 rfl (by decide) ?_
          refine go_iload 111 rfl 6 rfl ?_
          refine go_imul 112 rfl ?_
          refine go_iload 113 rfl 7 rfl ?_
          refine go_iadd 114 rfl ?_
          obtain ⟨r10, c, h⟩ := bd_inv h
          refine go_callV1 _ 115 rfl (e_M_lead c) mk_M_lead (by first | decide | exact ok0 (by omega) | exact ok1 (by omega) | exact ok2 (by omega) | exact ok7 (by omega)) rfl cv_M_103 rfl ⟨(Nat.le_of_ble_eq_true rfl), (Nat.le_of_ble_eq_true rfl)⟩ (Nat.le_of_ble_eq_true rfl) rfl ?_
          refine go_iinc 1 116 rfl 7 rfl (by decide) (Nat.le_of_ble_eq_true rfl) [(0, _), (1, _), (2, _), (3, _), (4, _), (5, _), (6, _), (7, _)] rfl ?_
          refine go_goto 164 117 rfl (by decide) ?_
          cases h
          have g9 := ih _ hc
          exact g9
set_option maxRecDepth 20000 in
theorem w_M_gather_153 {l : Launch} {post : Option PV → Mm → Prop} (c1 : Int32) (c2 : Int32) (c3 : Int32) (c4 : Int32) (c5 : Int32)  {r : Int32 × Mm} (kk : Go l X_M_gather post 226 [(0, vr 8 0), (1, vi c1), (2, vi c2), (3, vi c3), (4, vi c4), (5, vi c5), (6, vi r.1)] [] r.2) : ∀ (n : Nat) (s : Int32 × Mm), lpN (b_M_gather_153 c1 c2) n s = some r → Go l X_M_gather post 153 [(0, vr 8 0), (1, vi c1), (2, vi c2), (3, vi c3), (4, vi c4), (5, vi c5), (6, vi s.1)] [] s.2 := by
  intro n
  induction n with
  | zero => intro s hc; exact (lpN_0 hc).elim
  | succ n ih =>
    intro s hc
    obtain ⟨q, h, hc⟩ := lpN_inv hc
    unfold b_M_gather_153 at h
    refine go_iload 81 rfl 6 rfl ?_
    refine go_sipush 2461 82 rfl (by decide) ?_
    refine go_icmp_ge 226 83 rfl (by decide) (fun c => ?_) (fun c => ?_)
    · replace h := ite_t c h
      cases h
      obtain rfl := lpq_r hc
      exact kk
    · replace h := ite_f c h
      refine go_iconst 0 84 rfl (by decide) ?_
      refine go_istore 85 rfl (Nat.le_of_ble_eq_true rfl) [(0, _), (1, _), (2, _), (3, _), (4, _), (5, _), (6, _), (7, _)] rfl ?_
      obtain ⟨r11, c, h⟩ := bd_inv h
      refine w_M_gather_164 _ _ _ _ _ _ ?_ _ _ c
      refine go_iinc 1 118 rfl 6 rfl (by decide) (Nat.le_of_ble_eq_true rfl) [(0, _), (1, _), (2, _), (3, _), (4, _), (5, _), (6, _), (7, _)] rfl ?_
      refine go_goto 153 119 rfl (by decide) ?_
      cases h
      refine go_sub [0, 1, 2, 3, 4, 5, 6] rfl ?_
      have g9 := ih _ hc
      exact g9
set_option maxRecDepth 20000 in
theorem w_M_gather_232 {l : Launch} {post : Option PV → Mm → Prop} (c1 : Int32) (c2 : Int32) (c3 : Int32) (c4 : Int32)  {r : Int32 × Int32 × Mm} (kk : Go l X_M_gather post 296 [(0, vr 8 0), (1, vi c1), (2, vi c2), (3, vi c3), (4, vi c4), (5, vi r.1), (6, vi r.2.1)] [] r.2.2) : ∀ (n : Nat) (s : Int32 × Int32 × Mm), lpN (b_M_gather_232) n s = some r → Go l X_M_gather post 232 [(0, vr 8 0), (1, vi c1), (2, vi c2), (3, vi c3), (4, vi c4), (5, vi s.1), (6, vi s.2.1)] [] s.2.2 := by
  intro n
  induction n with
  | zero => intro s hc; exact (lpN_0 hc).elim
  | succ n ih =>
    intro s hc
    obtain ⟨q, h, hc⟩ := lpN_inv hc
    unfold b_M_gather_232 at h
    refine go_iload 124 rfl 6 rfl ?_
    refine go_sipush 2461 125 rfl (by decide) ?_
    refine go_icmp_ge 296 126 rfl (by decide) (fun c => ?_) (fun c => ?_)
    · replace h := ite_t c h
      cases h
      obtain rfl := lpq_r hc
      exact kk
    · replace h := ite_f c h
      refine go_aload_n 127 rfl 0 rfl rfl ?_
      refine go_getfield 7 _ 128 rfl (by first | decide | exact ok0 (by omega) | exact ok1 (by omega) | exact ok2 (by omega) | exact ok7 (by omega)) rfl fg_M_26 rfl ?_
      refine go_iload 129 rfl 6 rfl ?_
      refine go_aload_n 130 rfl 0 rfl rfl ?_
      refine go_getfield 8 _ 131 rfl (by first | decide | exact ok0 (by omega) | exact ok1 (by omega) | exact ok2 (by omega) | exact ok7 (by omega)) rfl fg_M_29 rfl ?_
      refine go_iload 132 rfl 6 rfl ?_
      obtain ⟨c, h⟩ := ck_inv h
      refine go_laload 133 rfl (by first | decide | exact ok0 (by omega) | exact ok1 (by omega) | exact ok2 (by omega) | exact ok7 (by omega)) (inb_vp c) ?_
      refine go_aload_n 134 rfl 0 rfl rfl ?_
      refine go_getfield 6 _ 135 rfl (by first | decide | exact ok0 (by omega) | exact ok1 (by omega) | exact ok2 (by omega) | exact ok7 (by omega)) rfl fg_M_22 rfl ?_
      refine go_iload 136 rfl 6 rfl ?_
      obtain ⟨c, h⟩ := ck_inv h
      refine go_laload 137 rfl (by first | decide | exact ok0 (by omega) | exact ok1 (by omega) | exact ok2 (by omega) | exact ok7 (by omega)) (inb_vp c) ?_
      refine go_ldc2 (-1) 138 rfl wb_679 ?_
      refine go_lxor 139 rfl ?_
      refine go_land 140 rfl ?_
      obtain ⟨c, h⟩ := ck_inv h
      refine go_lastore 141 rfl (by first | decide | exact ok0 (by omega) | exact ok1 (by omega) | exact ok2 (by omega) | exact ok7 (by omega)) (inb_vp c) ?_
      obtain ⟨_, c, h⟩ := bd_inv h
      cases c
      refine go_iload 142 rfl 5 rfl ?_
      refine go_if_ne 283 143 rfl (by decide) (fun c => ?_) (fun c => ?_)
      · replace h := ite_f c h
        refine go_iconst 1 151 rfl (by decide) ?_
        refine go_goto 288 152 rfl (by decide) ?_
        refine go_istore 154 rfl (Nat.le_of_ble_eq_true rfl) [(0, _), (1, _), (2, _), (3, _), (4, _), (5, _), (6, _)] rfl ?_
        refine go_iinc 1 155 rfl 6 rfl (by decide) (Nat.le_of_ble_eq_true rfl) [(0, _), (1, _), (2, _), (3, _), (4, _), (5, _), (6, _)] rfl ?_
        refine go_goto 232 156 rfl (by decide) ?_
        cases h
        have g9 := ih _ hc
        exact g9
      · replace h := ite_t c h
        refine go_aload_n 144 rfl 0 rfl rfl ?_
        refine go_getfield 7 _ 145 rfl (by first | decide | exact ok0 (by omega) | exact ok1 (by omega) | exact ok2 (by omega) | exact ok7 (by omega)) rfl fg_M_26 rfl ?_
        refine go_iload 146 rfl 6 rfl ?_
        obtain ⟨c, h⟩ := ck_inv h
        refine go_laload 147 rfl (by first | decide | exact ok0 (by omega) | exact ok1 (by omega) | exact ok2 (by omega) | exact ok7 (by omega)) (inb_vp c) ?_
        refine go_lconst 0 148 rfl (by decide) ?_
        refine go_lcmp 149 rfl ?_
        refine go_if_eq 287 150 rfl (by decide) (fun c => ?_) (fun c => ?_)
        · replace h := ite_t c h
          refine go_iconst 0 153 rfl (by decide) ?_
          refine go_istore 154 rfl (Nat.le_of_ble_eq_true rfl) [(0, _), (1, _), (2, _), (3, _), (4, _), (5, _), (6, _)] rfl ?_
          refine go_iinc 1 155 rfl 6 rfl (by decide) (Nat.le_of_ble_eq_true rfl) [(0, _), (1, _), (2, _), (3, _), (4, _), (5, _), (6, _)] rfl ?_
          refine go_goto 232 156 rfl (by decide) ?_
          cases h
          have g9 := ih _ hc
          exact g9
        · replace h := ite_f c h
          refine go_iconst 1 151 rfl (by decide) ?_
          refine go_goto 288 152 rfl (by decide) ?_
          refine go_istore 154 rfl (Nat.le_of_ble_eq_true rfl) [(0, _), (1, _), (2, _), (3, _), (4, _), (5, _), (6, _)] rfl ?_
          refine go_iinc 1 155 rfl 6 rfl (by decide) (Nat.le_of_ble_eq_true rfl) [(0, _), (1, _), (2, _), (3, _), (4, _), (5, _), (6, _)] rfl ?_
          refine go_goto 232 156 rfl (by decide) ?_
          cases h
          have g9 := ih _ hc
          exact g9
set_option maxRecDepth 20000 in
theorem w_M_gather_98 {l : Launch} {post : Option PV → Mm → Prop} (c1 : Int32) (c2 : Int32) (c3 : Int32) (c4 : Int32)  {r : Int32 × Mm} (kk : Go l X_M_gather post 299 [(0, vr 8 0), (1, vi c1), (2, vi c2), (3, vi c3), (4, vi c4), (5, vi r.1)] [] r.2) : ∀ (n : Nat) (s : Int32 × Mm), lpN (b_M_gather_98 c1 c2) n s = some r → Go l X_M_gather post 98 [(0, vr 8 0), (1, vi c1), (2, vi c2), (3, vi c3), (4, vi c4), (5, vi s.1)] [] s.2 := by
  intro n
  induction n with
  | zero => intro s hc; exact (lpN_0 hc).elim
  | succ n ih =>
    intro s hc
    obtain ⟨q, h, hc⟩ := lpN_inv hc
    unfold b_M_gather_98 at h
    refine go_iload 52 rfl 5 rfl ?_
    refine go_if_eq 299 53 rfl (by decide) (fun c => ?_) (fun c => ?_)
    · replace h := ite_t c h
      cases h
      obtain rfl := lpq_r hc
      exact kk
    · replace h := ite_f c h
      refine go_iconst 0 54 rfl (by decide) ?_
      refine go_istore 55 rfl (Nat.le_of_ble_eq_true rfl) [(0, _), (1, _), (2, _), (3, _), (4, _), (5, _), (6, _)] rfl ?_
      obtain ⟨r9, c, h⟩ := bd_inv h
      refine w_M_gather_106 _ _ _ _ _ ?_ _ _ c
      refine go_iconst 0 79 rfl (by decide) ?_
      refine go_istore 80 rfl (Nat.le_of_ble_eq_true rfl) [(0, _), (1, _), (2, _), (3, _), (4, _), (5, _), (6, _)] rfl ?_
      obtain ⟨r12, c, h⟩ := bd_inv h
      refine w_M_gather_153 _ _ _ _ _ ?_ _ _ c
      refine go_iconst 0 120 rfl (by decide) ?_
      refine go_istore 121 rfl (Nat.le_of_ble_eq_true rfl) [(0, _), (1, _), (2, _), (3, _), (4, _), (5, _), (6, _)] rfl ?_
      refine go_iconst 0 122 rfl (by decide) ?_
      refine go_istore 123 rfl (Nat.le_of_ble_eq_true rfl) [(0, _), (1, _), (2, _), (3, _), (4, _), (5, _), (6, _)] rfl ?_
      obtain ⟨r14, c, h⟩ := bd_inv h
      refine w_M_gather_232 _ _ _ _ ?_ _ _ c
      refine go_goto 98 157 rfl (by decide) ?_
      cases h
      refine go_sub [0, 1, 2, 3, 4, 5] rfl ?_
      have g9 := ih _ hc
      exact g9
set_option maxRecDepth 20000 in
theorem e_M_gather {l : Launch} {a1 : Int32} {a2 : Int32} {a3 : Int32} {M : Mm} {r : Mm}  (h : m_M_gather a1 a2 a3 M = some r) : Ev l X_M_gather [vr 8 0, vi a1, vi a2, vi a3] M (fun v M2 => v = none ∧ M2 = r) := by
  refine Ev.of mk_M_gather [(0, vr 8 0), (1, vi a1), (2, vi a2), (3, vi a3)] (fun _ => rfl) (fun _ => (Nat.le_of_ble_eq_true rfl)) ?_
  unfold m_M_gather at h
  refine go_iconst 0 0 rfl (by decide) ?_
  refine go_istore 1 rfl (Nat.le_of_ble_eq_true rfl) [(0, _), (1, _), (2, _), (3, _), (4, _)] rfl ?_
  obtain ⟨r3, c, h⟩ := bd_inv h
  refine w_M_gather_3 _ _ _ ?_ _ _ c
  refine go_iconst 0 17 rfl (by decide) ?_
  refine go_istore 18 rfl (Nat.le_of_ble_eq_true rfl) [(0, _), (1, _), (2, _), (3, _), (4, _)] rfl ?_
  refine go_iconst 2 19 rfl (by decide) ?_
  refine go_istore 20 rfl (Nat.le_of_ble_eq_true rfl) [(0, _), (1, _), (2, _), (3, _), (4, _), (5, _)] rfl ?_
  obtain ⟨r5, c, h⟩ := bd_inv h
  refine w_M_gather_39 _ _ _ _ ?_ _ _ c
  refine go_aload_n 40 rfl 0 rfl rfl ?_
  refine go_getfield 7 _ 41 rfl (by first | decide | exact ok0 (by omega) | exact ok1 (by omega) | exact ok2 (by omega) | exact ok7 (by omega)) rfl fg_M_26 rfl ?_
  refine go_sipush 19683 42 rfl (by decide) ?_
  refine go_iconst 2 43 rfl (by decide) ?_
  refine go_iload_n 44 rfl 3 rfl rfl ?_
  refine go_imul 45 rfl ?_
  refine go_imul 46 rfl ?_
  refine go_iload 47 rfl 4 rfl ?_
  refine go_iadd 48 rfl ?_
  obtain ⟨r6, c, h⟩ := bd_inv h
  refine go_callS1 _ 49 rfl (e_M_mark (by omega) c) mk_M_mark cs_M_99 rfl ⟨(Nat.le_of_ble_eq_true rfl), (Nat.le_of_ble_eq_true rfl)⟩ (Nat.le_of_ble_eq_true rfl) rfl ?_
  refine go_iconst 1 50 rfl (by decide) ?_
  refine go_istore 51 rfl (Nat.le_of_ble_eq_true rfl) [(0, _), (1, _), (2, _), (3, _), (4, _), (5, _)] rfl ?_
  obtain ⟨r15, c, h⟩ := bd_inv h
  refine w_M_gather_98 _ _ _ _ ?_ _ _ c
  cases h
  exact go_return 158 rfl rfl ⟨rfl, rfl⟩
def X_M_taken : MX := (⟨"OmegaDeskModel", "taken", "(II)I"⟩, prog_8_method_32_code, 10, some .int, { frames := 1, cells := 0, slots := 0, locals := 23 },
  [(0, .aload_n 0, 1), (1, .iload_n 1, 2), (2, .invokevirtual 109, 5), (5, .iconst 0, 6), (6, .istore_n 3, 7), (7, .iload_n 3, 8), (8, .bipush 9, 10), (10, .if_icmp .ge 148, 13), (13, .iload_n 3, 14), (14, .iconst 3, 15), (15, .irem, 16), (16, .istore 4, 18), (18, .iconst 0, 19), (19, .istore 5, 21), (21, .iload 5, 23), (23, .iload_n 2, 24), (24, .if_icmp .ge 128, 27), (27, .iconst 0, 28), (28, .istore 6, 30), (30, .iload 6, 32), (32, .iload_n 2, 33), (33, .if_icmp .ge 113, 36), (36, .aload_n 0, 37), (37, .getfield 32, 40), (40, .iconst 3, 41), (41, .iload 5, 43), (43, .imul, 44), (44, .iload 4, 46), (46, .iadd, 47), (47, .iaload, 48), (48, .istore 7, 50), (50, .aload_n 0, 51), (51, .getfield 32, 54), (54, .iconst 3, 55), (55, .iload 4, 57), (57, .imul, 58), (58, .iload 6, 60), (60, .iadd, 61), (61, .iaload, 62), (62, .istore 8, 64), (64, .iload 7, 66), (66, .ifCond .eq 8, 69), (69, .iload 8, 71), (71, .ifCond .ne 7, 74), (74, .iconst 0, 75), (75, .goto 17, 78), (78, .iload 7, 80), (80, .iload 8, 82), (82, .if_icmp .le 8, 85), (85, .iload 7, 87), (87, .goto 5, 90), (90, .iload 8, 92), (92, .istore 9, 94), (94, .aload_n 0, 95), (95, .getfield 32, 98), (98, .iconst 3, 99), (99, .iload 5, 101), (101, .imul, 102), (102, .iload 6, 104), (104, .iadd, 105), (105, .iload 9, 107), (107, .aload_n 0, 108), (108, .getfield 32, 111), (111, .iconst 3, 112), (112, .iload 5, 114), (114, .imul, 115), (115, .iload 6, 117), (117, .iadd, 118), (118, .iaload, 119), (119, .if_icmp .le 8, 122), (122, .iload 9, 124), (124, .goto 15, 127), (127, .aload_n 0, 128), (128, .getfield 32, 131), (131, .iconst 3, 132), (132, .iload 5, 134), (134, .imul, 135), (135, .iload 6, 137), (137, .iadd, 138), (138, .iaload, 139), (139, .iastore, 140), (140, .iinc 6 1, 143), (143, .goto (-113), 146), (146, .iinc 5 1, 149), (149, .goto (-128), 152), (152, .iinc 3 1, 155), (155, .goto (-148), 158), (158, .iconst 0, 159), (159, .istore_n 3, 160), (160, .iconst 0, 161), (161, .istore 4, 163), (163, .iload 4, 165), (165, .iload_n 2, 166), (166, .if_icmp .ge 82, 169), (169, .iconst 0, 170), (170, .istore 5, 172), (172, .iload 5, 174), (174, .iload_n 2, 175), (175, .if_icmp .ge 67, 178), (178, .aload_n 0, 179), (179, .getfield 32, 182), (182, .iconst 4, 183), (183, .iload 5, 185), (185, .imul, 186), (186, .iaload, 187), (187, .iconst 2, 188), (188, .if_icmp .ne 29, 191), (191, .iload 4, 193), (193, .iload 5, 195), (195, .if_icmp .eq 18, 198), (198, .aload_n 0, 199), (199, .getfield 32, 202), (202, .iconst 3, 203), (203, .iload 4, 205), (205, .imul, 206), (206, .iload 5, 208), (208, .iadd, 209), (209, .iaload, 210), (210, .ifCond .le 7, 213), (213, .iconst 1, 214), (214, .goto 4, 217), (217, .iconst 0, 218), (218, .istore 6, 220), (220, .iload 6, 222), (222, .ifCond .eq 12, 225), (225, .iload_n 3, 226), (226, .iconst 1, 227), (227, .iload 4, 229), (229, .ishl, 230), (230, .ior, 231), (231, .goto 4, 234), (234, .iload_n 3, 235), (235, .istore_n 3, 236), (236, .iinc 5 1, 239), (239, .goto (-67), 242), (242, .iinc 4 1, 245), (245, .goto (-82), 248), (248, .iload_n 3, 249), (249, .ireturn, 250)])
set_option maxRecDepth 20000 in
theorem mk_M_taken : Mk X_M_taken := ⟨by unfold TBk; decide +kernel, by decide +kernel, wb_686, ⟨by decide, by decide⟩, rfl, rfl, wb_6⟩
def b_M_taken_30 (c2 : Int32) (c4 : Int32) (c5 : Int32) (s : Int32 × Mm) : Option ((Int32 × Mm) ⊕ (Int32 × Mm)) :=
  if c2 ≤ s.1 then
    some (Sum.inr (s.1, s.2))
  else
    ck (inb (((3 : Int32) * c5) + c4) (lenI 20)) <|
    bd (some (s.2.1 (1, 20) (((3 : Int32) * c5) + c4).toNatClampNeg)) fun x2 =>
    ck (inb (((3 : Int32) * c4) + s.1) (lenI 20)) <|
    bd (some (s.2.1 (1, 20) (((3 : Int32) * c4) + s.1).toNatClampNeg)) fun x3 =>
    if x2 = 0 then
      ck (inb (((3 : Int32) * c5) + s.1) (lenI 20)) <|
      if (0 : Int32) ≤ (s.2.1 (1, 20) (((3 : Int32) * c5) + s.1).toNatClampNeg) then
        ck (inb (((3 : Int32) * c5) + s.1) (lenI 20)) <|
        ck (inb (((3 : Int32) * c5) + s.1) (lenI 20)) <|
        bd (some (uI s.2 (1, 20) (((3 : Int32) * c5) + s.1).toNatClampNeg (s.2.1 (1, 20) (((3 : Int32) * c5) + s.1).toNatClampNeg))) fun M4 =>
        some (Sum.inl ((s.1 + 1), M4))
      else
        ck (inb (((3 : Int32) * c5) + s.1) (lenI 20)) <|
        bd (some (uI s.2 (1, 20) (((3 : Int32) * c5) + s.1).toNatClampNeg (0 : Int32))) fun M5 =>
        some (Sum.inl ((s.1 + 1), M5))
    else
      if x3 = 0 then
        ck (inb (((3 : Int32) * c5) + s.1) (lenI 20)) <|
        if (0 : Int32) ≤ (s.2.1 (1, 20) (((3 : Int32) * c5) + s.1).toNatClampNeg) then
          ck (inb (((3 : Int32) * c5) + s.1) (lenI 20)) <|
          ck (inb (((3 : Int32) * c5) + s.1) (lenI 20)) <|
          bd (some (uI s.2 (1, 20) (((3 : Int32) * c5) + s.1).toNatClampNeg (s.2.1 (1, 20) (((3 : Int32) * c5) + s.1).toNatClampNeg))) fun M10 =>
          some (Sum.inl ((s.1 + 1), M10))
        else
          ck (inb (((3 : Int32) * c5) + s.1) (lenI 20)) <|
          bd (some (uI s.2 (1, 20) (((3 : Int32) * c5) + s.1).toNatClampNeg (0 : Int32))) fun M11 =>
          some (Sum.inl ((s.1 + 1), M11))
      else
        if x2 ≤ x3 then
          ck (inb (((3 : Int32) * c5) + s.1) (lenI 20)) <|
          if x3 ≤ (s.2.1 (1, 20) (((3 : Int32) * c5) + s.1).toNatClampNeg) then
            ck (inb (((3 : Int32) * c5) + s.1) (lenI 20)) <|
            ck (inb (((3 : Int32) * c5) + s.1) (lenI 20)) <|
            bd (some (uI s.2 (1, 20) (((3 : Int32) * c5) + s.1).toNatClampNeg (s.2.1 (1, 20) (((3 : Int32) * c5) + s.1).toNatClampNeg))) fun M6 =>
            some (Sum.inl ((s.1 + 1), M6))
          else
            ck (inb (((3 : Int32) * c5) + s.1) (lenI 20)) <|
            bd (some (uI s.2 (1, 20) (((3 : Int32) * c5) + s.1).toNatClampNeg x3)) fun M7 =>
            some (Sum.inl ((s.1 + 1), M7))
        else
          ck (inb (((3 : Int32) * c5) + s.1) (lenI 20)) <|
          if x2 ≤ (s.2.1 (1, 20) (((3 : Int32) * c5) + s.1).toNatClampNeg) then
            ck (inb (((3 : Int32) * c5) + s.1) (lenI 20)) <|
            ck (inb (((3 : Int32) * c5) + s.1) (lenI 20)) <|
            bd (some (uI s.2 (1, 20) (((3 : Int32) * c5) + s.1).toNatClampNeg (s.2.1 (1, 20) (((3 : Int32) * c5) + s.1).toNatClampNeg))) fun M8 =>
            some (Sum.inl ((s.1 + 1), M8))
          else
            ck (inb (((3 : Int32) * c5) + s.1) (lenI 20)) <|
            bd (some (uI s.2 (1, 20) (((3 : Int32) * c5) + s.1).toNatClampNeg x2)) fun M9 =>
            some (Sum.inl ((s.1 + 1), M9))
def b_M_taken_21 (c2 : Int32) (c4 : Int32) (s : Int32 × Mm) : Option ((Int32 × Mm) ⊕ (Int32 × Mm)) :=
  if c2 ≤ s.1 then
    some (Sum.inr (s.1, s.2))
  else
    bd (lp (b_M_taken_30 c2 c4 s.1) ((0 : Int32), s.2)) fun r12 =>
    some (Sum.inl ((s.1 + 1), r12.2))
def b_M_taken_7 (c2 : Int32) (s : Int32 × Mm) : Option ((Int32 × Mm) ⊕ (Int32 × Mm)) :=
  if (9 : Int32) ≤ s.1 then
    some (Sum.inr (s.1, s.2))
  else
    bd (lp (b_M_taken_21 c2 (s.1 - s.1 / (3 : Int32) * (3 : Int32))) ((0 : Int32), s.2)) fun r13 =>
    some (Sum.inl ((s.1 + 1), r13.2))
def b_M_taken_172 (c2 : Int32) (c4 : Int32) (M : Mm) (s : Int32 × Int32) : Option ((Int32 × Int32) ⊕ (Int32 × Int32)) :=
  if c2 ≤ s.2 then
    some (Sum.inr (s.1, s.2))
  else
    ck (inb ((4 : Int32) * s.2) (lenI 20)) <|
    if (M.1 (1, 20) ((4 : Int32) * s.2).toNatClampNeg) = (2 : Int32) then
      if c4 = s.2 then
        some (Sum.inl ((s.1 ||| ((1 : Int32) <<< (c4 &&& 31))), (s.2 + 1)))
      else
        ck (inb (((3 : Int32) * c4) + s.2) (lenI 20)) <|
        if (M.1 (1, 20) (((3 : Int32) * c4) + s.2).toNatClampNeg) ≤ 0 then
          some (Sum.inl (s.1, (s.2 + 1)))
        else
          some (Sum.inl ((s.1 ||| ((1 : Int32) <<< (c4 &&& 31))), (s.2 + 1)))
    else
      some (Sum.inl (s.1, (s.2 + 1)))
def b_M_taken_163 (c2 : Int32) (M : Mm) (s : Int32 × Int32) : Option ((Int32 × Int32) ⊕ (Int32 × Int32)) :=
  if c2 ≤ s.2 then
    some (Sum.inr (s.1, s.2))
  else
    bd (lp (b_M_taken_172 c2 s.2 M) (s.1, (0 : Int32))) fun r15 =>
    some (Sum.inl (r15.1, (s.2 + 1)))
def m_M_taken (a1 : Int32) (a2 : Int32) (M : Mm) : Option (Int32 × Mm) :=
  bd (m_M_spread a1 M) fun r1 =>
  bd (lp (b_M_taken_7 a2) ((0 : Int32), r1)) fun r14 =>
  bd (lp (b_M_taken_163 a2 r14.2) ((0 : Int32), (0 : Int32))) fun r16 =>
  some (r16.1, r14.2)
set_option maxRecDepth 20000 in
theorem w_M_taken_30 {l : Launch} {post : Option PV → Mm → Prop} (c1 : Int32) (c2 : Int32) (c3 : Int32) (c4 : Int32) (c5 : Int32)  {r : Int32 × Mm} (kk : Go l X_M_taken post 146 [(0, vr 8 0), (1, vi c1), (2, vi c2), (3, vi c3), (4, vi c4), (5, vi c5), (6, vi r.1)] [] r.2) : ∀ (n : Nat) (s : Int32 × Mm), lpN (b_M_taken_30 c2 c4 c5) n s = some r → Go l X_M_taken post 30 [(0, vr 8 0), (1, vi c1), (2, vi c2), (3, vi c3), (4, vi c4), (5, vi c5), (6, vi s.1)] [] s.2 := by
  intro n
  induction n with
  | zero => intro s hc; exact (lpN_0 hc).elim
  | succ n ih =>
    intro s hc
    obtain ⟨q, h, hc⟩ := lpN_inv hc
    unfold b_M_taken_30 at h
    refine go_iload 19 rfl 6 rfl ?_
    refine go_iload_n 20 rfl 2 rfl rfl ?_
    refine go_icmp_ge 146 21 rfl (by decide) (fun c => ?_) (fun c => ?_)
    · replace h := ite_t c h
      cases h
      obtain rfl := lpq_r hc
      exact kk
    · replace h := ite_f c h
      refine go_aload_n 22 rfl 0 rfl rfl ?_
      refine go_getfield 9 _ 23 rfl (by first | decide | exact ok0 (by omega) | exact ok1 (by omega) | exact ok2 (by omega) | exact ok7 (by omega)) rfl fg_M_32 rfl ?_
      refine go_iconst 3 24 rfl (by decide) ?_
      refine go_iload 25 rfl 5 rfl ?_
      refine go_imul 26 rfl ?_
      refine go_iload 27 rfl 4 rfl ?_
      refine go_iadd 28 rfl ?_
      obtain ⟨c, h⟩ := ck_inv h
      refine go_iaload 29 rfl (by first | decide | exact ok0 (by omega) | exact ok1 (by omega) | exact ok2 (by omega) | exact ok7 (by omega)) (inb_vp c) ?_
      obtain ⟨_, c, h⟩ := bd_inv h
      cases c
      refine go_istore 30 rfl (Nat.le_of_ble_eq_true rfl) [(0, _), (1, _), (2, _), (3, _), (4, _), (5, _), (6, _), (7, _)] rfl ?_
      refine go_aload_n 31 rfl 0 rfl rfl ?_
      refine go_getfield 9 _ 32 rfl (by first | decide | exact ok0 (by omega) | exact ok1 (by omega) | exact ok2 (by omega) | exact ok7 (by omega)) rfl fg_M_32 rfl ?_
      refine go_iconst 3 33 rfl (by decide) ?_
      refine go_iload 34 rfl 4 rfl ?_
      refine go_imul 35 rfl ?_
      refine go_iload 36 rfl 6 rfl ?_
      refine go_iadd 37 rfl ?_
      obtain ⟨c, h⟩ := ck_inv h
      refine go_iaload 38 rfl (by first | decide | exact ok0 (by omega) | exact ok1 (by omega) | exact ok2 (by omega) | exact ok7 (by omega)) (inb_vp c) ?_
      obtain ⟨_, c, h⟩ := bd_inv h
      cases c
      refine go_istore 39 rfl (Nat.le_of_ble_eq_true rfl) [(0, _), (1, _), (2, _), (3, _), (4, _), (5, _), (6, _), (7, _), (8, _)] rfl ?_
      refine go_iload 40 rfl 7 rfl ?_
      refine go_if_eq 74 41 rfl (by decide) (fun c => ?_) (fun c => ?_)
      · replace h := ite_t c h
        refine go_iconst 0 44 rfl (by decide) ?_
        refine go_goto 92 45 rfl (by decide) ?_
        refine go_istore 52 rfl (Nat.le_of_ble_eq_true rfl) [(0, _), (1, _), (2, _), (3, _), (4, _), (5, _), (6, _), (7, _), (8, _), (9, _)] rfl ?_
        refine go_aload_n 53 rfl 0 rfl rfl ?_
        refine go_getfield 9 _ 54 rfl (by first | decide | exact ok0 (by omega) | exact ok1 (by omega) | exact ok2 (by omega) | exact ok7 (by omega)) rfl fg_M_32 rfl ?_
        refine go_iconst 3 55 rfl (by decide) ?_
        refine go_iload 56 rfl 5 rfl ?_
        refine go_imul 57 rfl ?_
        refine go_iload 58 rfl 6 rfl ?_
        refine go_iadd 59 rfl ?_
        refine go_iload 60 rfl 9 rfl ?_
        refine go_aload_n 61 rfl 0 rfl rfl ?_
        refine go_getfield 9 _ 62 rfl (by first | decide | exact ok0 (by omega) | exact ok1 (by omega) | exact ok2 (by omega) | exact ok7 (by omega)) rfl fg_M_32 rfl ?_
        refine go_iconst 3 63 rfl (by decide) ?_
        refine go_iload 64 rfl 5 rfl ?_
        refine go_imul 65 rfl ?_
        refine go_iload 66 rfl 6 rfl ?_
        refine go_iadd 67 rfl ?_
        obtain ⟨c, h⟩ := ck_inv h
        refine go_iaload 68 rfl (by first | decide | exact ok0 (by omega) | exact ok1 (by omega) | exact ok2 (by omega) | exact ok7 (by omega)) (inb_vp c) ?_
        refine go_icmp_le 127 69 rfl (by decide) (fun c => ?_) (fun c => ?_)
        · replace h := ite_t c h
          refine go_aload_n 72 rfl 0 rfl rfl ?_
          refine go_getfield 9 _ 73 rfl (by first | decide | exact ok0 (by omega) | exact ok1 (by omega) | exact ok2 (by omega) | exact ok7 (by omega)) rfl fg_M_32 rfl ?_
          refine go_iconst 3 74 rfl (by decide) ?_
          refine go_iload 75 rfl 5 rfl ?_
          refine go_imul 76 rfl ?_
          refine go_iload 77 rfl 6 rfl ?_
          refine go_iadd 78 rfl ?_
          obtain ⟨c, h⟩ := ck_inv h
          refine go_iaload 79 rfl (by first | decide | exact ok0 (by omega) | exact ok1 (by omega) | exact ok2 (by omega) | exact ok7 (by omega)) (inb_vp c) ?_
          obtain ⟨c, h⟩ := ck_inv h
          refine go_iastore 80 rfl (by first | decide | exact ok0 (by omega) | exact ok1 (by omega) | exact ok2 (by omega) | exact ok7 (by omega)) (inb_vp c) ?_
          obtain ⟨_, c, h⟩ := bd_inv h
          cases c
          refine go_iinc 1 81 rfl 6 rfl (by decide) (Nat.le_of_ble_eq_true rfl) [(0, _), (1, _), (2, _), (3, _), (4, _), (5, _), (6, _), (7, _), (8, _), (9, _)] rfl ?_
          refine go_goto 30 82 rfl (by decide) ?_
          cases h
          refine go_sub [0, 1, 2, 3, 4, 5, 6] rfl ?_
          have g9 := ih _ hc
          exact g9
        · replace h := ite_f c h
          refine go_iload 70 rfl 9 rfl ?_
          refine go_goto 139 71 rfl (by decide) ?_
          obtain ⟨c, h⟩ := ck_inv h
          refine go_iastore 80 rfl (by first | decide | exact ok0 (by omega) | exact ok1 (by omega) | exact ok2 (by omega) | exact ok7 (by omega)) (inb_vp c) ?_
          obtain ⟨_, c, h⟩ := bd_inv h
          cases c
          refine go_iinc 1 81 rfl 6 rfl (by decide) (Nat.le_of_ble_eq_true rfl) [(0, _), (1, _), (2, _), (3, _), (4, _), (5, _), (6, _), (7, _), (8, _), (9, _)] rfl ?_
          refine go_goto 30 82 rfl (by decide) ?_
          cases h
          refine go_sub [0, 1, 2, 3, 4, 5, 6] rfl ?_
          have g9 := ih _ hc
          exact g9
      · replace h := ite_f c h
        refine go_iload 42 rfl 8 rfl ?_
        refine go_if_ne 78 43 rfl (by decide) (fun c => ?_) (fun c => ?_)
        · replace h := ite_f c h
          refine go_iload 46 rfl 7 rfl ?_
          refine go_iload 47 rfl 8 rfl ?_
          refine go_icmp_le 90 48 rfl (by decide) (fun c => ?_) (fun c => ?_)
          · replace h := ite_t c h
            refine go_iload 51 rfl 8 rfl ?_
            refine go_istore 52 rfl (Nat.le_of_ble_eq_true rfl) [(0, _), (1, _), (2, _), (3, _), (4, _), (5, _), (6, _), (7, _), (8, _), (9, _)] rfl ?_
            refine go_aload_n 53 rfl 0 rfl rfl ?_
            refine go_getfield 9 _ 54 rfl (by first | decide | exact ok0 (by omega) | exact ok1 (by omega) | exact ok2 (by omega) | exact ok7 (by omega)) rfl fg_M_32 rfl ?_
            refine go_iconst 3 55 rfl (by decide) ?_
            refine go_iload 56 rfl 5 rfl ?_
            refine go_imul 57 rfl ?_
            refine go_iload 58 rfl 6 rfl ?_
            refine go_iadd 59 rfl ?_
            refine go_iload 60 rfl 9 rfl ?_
            refine go_aload_n 61 rfl 0 rfl rfl ?_
            refine go_getfield 9 _ 62 rfl (by first | decide | exact ok0 (by omega) | exact ok1 (by omega) | exact ok2 (by omega) | exact ok7 (by omega)) rfl fg_M_32 rfl ?_
            refine go_iconst 3 63 rfl (by decide) ?_
            refine go_iload 64 rfl 5 rfl ?_
            refine go_imul 65 rfl ?_
            refine go_iload 66 rfl 6 rfl ?_
            refine go_iadd 67 rfl ?_
            obtain ⟨c, h⟩ := ck_inv h
            refine go_iaload 68 rfl (by first | decide | exact ok0 (by omega) | exact ok1 (by omega) | exact ok2 (by omega) | exact ok7 (by omega)) (inb_vp c) ?_
            refine go_icmp_le 127 69 rfl (by decide) (fun c => ?_) (fun c => ?_)
            · replace h := ite_t c h
              refine go_aload_n 72 rfl 0 rfl rfl ?_
              refine go_getfield 9 _ 73 rfl (by first | decide | exact ok0 (by omega) | exact ok1 (by omega) | exact ok2 (by omega) | exact ok7 (by omega)) rfl fg_M_32 rfl ?_
              refine go_iconst 3 74 rfl (by decide) ?_
              refine go_iload 75 rfl 5 rfl ?_
              refine go_imul 76 rfl ?_
              refine go_iload 77 rfl 6 rfl ?_
              refine go_iadd 78 rfl ?_
              obtain ⟨c, h⟩ := ck_inv h
              refine go_iaload 79 rfl (by first | decide | exact ok0 (by omega) | exact ok1 (by omega) | exact ok2 (by omega) | exact ok7 (by omega)) (inb_vp c) ?_
              obtain ⟨c, h⟩ := ck_inv h
              refine go_iastore 80 rfl (by first | decide | exact ok0 (by omega) | exact ok1 (by omega) | exact ok2 (by omega) | exact ok7 (by omega)) (inb_vp c) ?_
              obtain ⟨_, c, h⟩ := bd_inv h
              cases c
              refine go_iinc 1 81 rfl 6 rfl (by decide) (Nat.le_of_ble_eq_true rfl) [(0, _), (1, _), (2, _), (3, _), (4, _), (5, _), (6, _), (7, _), (8, _), (9, _)] rfl ?_
              refine go_goto 30 82 rfl (by decide) ?_
              cases h
              refine go_sub [0, 1, 2, 3, 4, 5, 6] rfl ?_
              have g9 := ih _ hc
              exact g9
            · replace h := ite_f c h
              refine go_iload 70 rfl 9 rfl ?_
              refine go_goto 139 71 rfl (by decide) ?_
              obtain ⟨c, h⟩ := ck_inv h
              refine go_iastore 80 rfl (by first | decide | exact ok0 (by omega) | exact ok1 (by omega) | exact ok2 (by omega) | exact ok7 (by omega)) (inb_vp c) ?_
              obtain ⟨_, c, h⟩ := bd_inv h
              cases c
              refine go_iinc 1 81 rfl 6 rfl (by decide) (Nat.le_of_ble_eq_true rfl) [(0, _), (1, _), (2, _), (3, _), (4, _), (5, _), (6, _), (7, _), (8, _), (9, _)] rfl ?_
              refine go_goto 30 82 rfl (by decide) ?_
              cases h
              refine go_sub [0, 1, 2, 3, 4, 5, 6] rfl ?_
              have g9 := ih _ hc
              exact g9
          · replace h := ite_f c h
            refine go_iload 49 rfl 7 rfl ?_
            refine go_goto 92 50 rfl (by decide) ?_
            refine go_istore 52 rfl (Nat.le_of_ble_eq_true rfl) [(0, _), (1, _), (2, _), (3, _), (4, _), (5, _), (6, _), (7, _), (8, _), (9, _)] rfl ?_
            refine go_aload_n 53 rfl 0 rfl rfl ?_
            refine go_getfield 9 _ 54 rfl (by first | decide | exact ok0 (by omega) | exact ok1 (by omega) | exact ok2 (by omega) | exact ok7 (by omega)) rfl fg_M_32 rfl ?_
            refine go_iconst 3 55 rfl (by decide) ?_
            refine go_iload 56 rfl 5 rfl ?_
            refine go_imul 57 rfl ?_
            refine go_iload 58 rfl 6 rfl ?_
            refine go_iadd 59 rfl ?_
            refine go_iload 60 rfl 9 rfl ?_
            refine go_aload_n 61 rfl 0 rfl rfl ?_
            refine go_getfield 9 _ 62 rfl (by first | decide | exact ok0 (by omega) | exact ok1 (by omega) | exact ok2 (by omega) | exact ok7 (by omega)) rfl fg_M_32 rfl ?_
            refine go_iconst 3 63 rfl (by decide) ?_
            refine go_iload 64 rfl 5 rfl ?_
            refine go_imul 65 rfl ?_
            refine go_iload 66 rfl 6 rfl ?_
            refine go_iadd 67 rfl ?_
            obtain ⟨c, h⟩ := ck_inv h
            refine go_iaload 68 rfl (by first | decide | exact ok0 (by omega) | exact ok1 (by omega) | exact ok2 (by omega) | exact ok7 (by omega)) (inb_vp c) ?_
            refine go_icmp_le 127 69 rfl (by decide) (fun c => ?_) (fun c => ?_)
            · replace h := ite_t c h
              refine go_aload_n 72 rfl 0 rfl rfl ?_
              refine go_getfield 9 _ 73 rfl (by first | decide | exact ok0 (by omega) | exact ok1 (by omega) | exact ok2 (by omega) | exact ok7 (by omega)) rfl fg_M_32 rfl ?_
              refine go_iconst 3 74 rfl (by decide) ?_
              refine go_iload 75 rfl 5 rfl ?_
              refine go_imul 76 rfl ?_
              refine go_iload 77 rfl 6 rfl ?_
              refine go_iadd 78 rfl ?_
              obtain ⟨c, h⟩ := ck_inv h
              refine go_iaload 79 rfl (by first | decide | exact ok0 (by omega) | exact ok1 (by omega) | exact ok2 (by omega) | exact ok7 (by omega)) (inb_vp c) ?_
              obtain ⟨c, h⟩ := ck_inv h
              refine go_iastore 80 rfl (by first | decide | exact ok0 (by omega) | exact ok1 (by omega) | exact ok2 (by omega) | exact ok7 (by omega)) (inb_vp c) ?_
              obtain ⟨_, c, h⟩ := bd_inv h
              cases c
              refine go_iinc 1 81 rfl 6 rfl (by decide) (Nat.le_of_ble_eq_true rfl) [(0, _), (1, _), (2, _), (3, _), (4, _), (5, _), (6, _), (7, _), (8, _), (9, _)] rfl ?_
              refine go_goto 30 82 rfl (by decide) ?_
              cases h
              refine go_sub [0, 1, 2, 3, 4, 5, 6] rfl ?_
              have g9 := ih _ hc
              exact g9
            · replace h := ite_f c h
              refine go_iload 70 rfl 9 rfl ?_
              refine go_goto 139 71 rfl (by decide) ?_
              obtain ⟨c, h⟩ := ck_inv h
              refine go_iastore 80 rfl (by first | decide | exact ok0 (by omega) | exact ok1 (by omega) | exact ok2 (by omega) | exact ok7 (by omega)) (inb_vp c) ?_
              obtain ⟨_, c, h⟩ := bd_inv h
              cases c
              refine go_iinc 1 81 rfl 6 rfl (by decide) (Nat.le_of_ble_eq_true rfl) [(0, _), (1, _), (2, _), (3, _), (4, _), (5, _), (6, _), (7, _), (8, _), (9, _)] rfl ?_
              refine go_goto 30 82 rfl (by decide) ?_
              cases h
              refine go_sub [0, 1, 2, 3, 4, 5, 6] rfl ?_
              have g9 := ih _ hc
              exact g9
        · replace h := ite_t c h
          refine go_iconst 0 44 rfl (by decide) ?_
          refine go_goto 92 45 rfl (by decide) ?_
          refine go_istore 52 rfl (Nat.le_of_ble_eq_true rfl) [(0, _), (1, _), (2, _), (3, _), (4, _), (5, _), (6, _), (7, _), (8, _), (9, _)] rfl ?_
          refine go_aload_n 53 rfl 0 rfl rfl ?_
          refine go_getfield 9 _ 54 rfl (by first | decide | exact ok0 (by omega) | exact ok1 (by omega) | exact ok2 (by omega) | exact ok7 (by omega)) rfl fg_M_32 rfl ?_
          refine go_iconst 3 55 rfl (by decide) ?_
          refine go_iload 56 rfl 5 rfl ?_
          refine go_imul 57 rfl ?_
          refine go_iload 58 rfl 6 rfl ?_
          refine go_iadd 59 rfl ?_
          refine go_iload 60 rfl 9 rfl ?_
          refine go_aload_n 61 rfl 0 rfl rfl ?_
          refine go_getfield 9 _ 62 rfl (by first | decide | exact ok0 (by omega) | exact ok1 (by omega) | exact ok2 (by omega) | exact ok7 (by omega)) rfl fg_M_32 rfl ?_
          refine go_iconst 3 63 rfl (by decide) ?_
          refine go_iload 64 rfl 5 rfl ?_
          refine go_imul 65 rfl ?_
          refine go_iload 66 rfl 6 rfl ?_
          refine go_iadd 67 rfl ?_
          obtain ⟨c, h⟩ := ck_inv h
          refine go_iaload 68 rfl (by first | decide | exact ok0 (by omega) | exact ok1 (by omega) | exact ok2 (by omega) | exact ok7 (by omega)) (inb_vp c) ?_
          refine go_icmp_le 127 69 rfl (by decide) (fun c => ?_) (fun c => ?_)
          · replace h := ite_t c h
            refine go_aload_n 72 rfl 0 rfl rfl ?_
            refine go_getfield 9 _ 73 rfl (by first | decide | exact ok0 (by omega) | exact ok1 (by omega) | exact ok2 (by omega) | exact ok7 (by omega)) rfl fg_M_32 rfl ?_
            refine go_iconst 3 74 rfl (by decide) ?_
            refine go_iload 75 rfl 5 rfl ?_
            refine go_imul 76 rfl ?_
            refine go_iload 77 rfl 6 rfl ?_
            refine go_iadd 78 rfl ?_
            obtain ⟨c, h⟩ := ck_inv h
            refine go_iaload 79 rfl (by first | decide | exact ok0 (by omega) | exact ok1 (by omega) | exact ok2 (by omega) | exact ok7 (by omega)) (inb_vp c) ?_
            obtain ⟨c, h⟩ := ck_inv h
            refine go_iastore 80 rfl (by first | decide | exact ok0 (by omega) | exact ok1 (by omega) | exact ok2 (by omega) | exact ok7 (by omega)) (inb_vp c) ?_
            obtain ⟨_, c, h⟩ := bd_inv h
            cases c
            refine go_iinc 1 81 rfl 6 rfl (by decide) (Nat.le_of_ble_eq_true rfl) [(0, _), (1, _), (2, _), (3, _), (4, _), (5, _), (6, _), (7, _), (8, _), (9, _)] rfl ?_
            refine go_goto 30 82 rfl (by decide) ?_
            cases h
            refine go_sub [0, 1, 2, 3, 4, 5, 6] rfl ?_
            have g9 := ih _ hc
            exact g9
          · replace h := ite_f c h
            refine go_iload 70 rfl 9 rfl ?_
            refine go_goto 139 71 rfl (by decide) ?_
            obtain ⟨c, h⟩ := ck_inv h
            refine go_iastore 80 rfl (by first | decide | exact ok0 (by omega) | exact ok1 (by omega) | exact ok2 (by omega) | exact ok7 (by omega)) (inb_vp c) ?_
            obtain ⟨_, c, h⟩ := bd_inv h
            cases c
            refine go_iinc 1 81 rfl 6 rfl (by decide) (Nat.le_of_ble_eq_true rfl) [(0, _), (1, _), (2, _), (3, _), (4, _), (5, _), (6, _), (7, _), (8, _), (9, _)] rfl ?_
            refine go_goto 30 82 rfl (by decide) ?_
            cases h
            refine go_sub [0, 1, 2, 3, 4, 5, 6] rfl ?_
            have g9 := ih _ hc
            exact g9
set_option maxRecDepth 20000 in
theorem w_M_taken_21 {l : Launch} {post : Option PV → Mm → Prop} (c1 : Int32) (c2 : Int32) (c3 : Int32) (c4 : Int32)  {r : Int32 × Mm} (kk : Go l X_M_taken post 152 [(0, vr 8 0), (1, vi c1), (2, vi c2), (3, vi c3), (4, vi c4), (5, vi r.1)] [] r.2) : ∀ (n : Nat) (s : Int32 × Mm), lpN (b_M_taken_21 c2 c4) n s = some r → Go l X_M_taken post 21 [(0, vr 8 0), (1, vi c1), (2, vi c2), (3, vi c3), (4, vi c4), (5, vi s.1)] [] s.2 := by
  intro n
  induction n with
  | zero => intro s hc; exact (lpN_0 hc).elim
  | succ n ih =>
    intro s hc
    obtain ⟨q, h, hc⟩ := lpN_inv hc
    unfold b_M_taken_21 at h
    refine go_iload 14 rfl 5 rfl ?_
    refine go_iload_n 15 rfl 2 rfl rfl ?_
    refine go_icmp_ge 152 16 rfl (by decide) (fun c => ?_) (fun c => ?_)
    · replace h := ite_t c h
      cases h
      obtain rfl := lpq_r hc
      exact kk
    · replace h := ite_f c h
      refine go_iconst 0 17 rfl (by decide) ?_
      refine go_istore 18 rfl (Nat.le_of_ble_eq_true rfl) [(0, _), (1, _), (2, _), (3, _), (4, _), (5, _), (6, _)] rfl ?_
      obtain ⟨r12, c, h⟩ := bd_inv h
      refine w_M_taken_30 _ _ _ _ _ ?_ _ _ c
      refine go_iinc 1 83 rfl 5 rfl (by decide) (Nat.le_of_ble_eq_true rfl) [(0, _), (1, _), (2, _), (3, _), (4, _), (5, _), (6, _)] rfl ?_
      refine go_goto 21 84 rfl (by decide) ?_
      cases h
      refine go_sub [0, 1, 2, 3, 4, 5] rfl ?_
      have g9 := ih _ hc
      exact g9
set_option maxRecDepth 20000 in
theorem w_M_taken_7 {l : Launch} {post : Option PV → Mm → Prop} (c1 : Int32) (c2 : Int32)  {r : Int32 × Mm} (kk : Go l X_M_taken post 158 [(0, vr 8 0), (1, vi c1), (2, vi c2), (3, vi r.1)] [] r.2) : ∀ (n : Nat) (s : Int32 × Mm), lpN (b_M_taken_7 c2) n s = some r → Go l X_M_taken post 7 [(0, vr 8 0), (1, vi c1), (2, vi c2), (3, vi s.1)] [] s.2 := by
  intro n
  induction n with
  | zero => intro s hc; exact (lpN_0 hc).elim
  | succ n ih =>
    intro s hc
    obtain ⟨q, h, hc⟩ := lpN_inv hc
    unfold b_M_taken_7 at h
    refine go_iload_n 5 rfl 3 rfl rfl ?_
    refine go_bipush 9 6 rfl (by decide) ?_
    refine go_icmp_ge 158 7 rfl (by decide) (fun c => ?_) (fun c => ?_)
    · replace h := ite_t c h
      cases h
      obtain rfl := lpq_r hc
      exact kk
    · replace h := ite_f c h
      refine go_iload_n 8 rfl 3 rfl rfl ?_
      refine go_iconst 3 9 rfl (by decide) ?_
      refine go_irem 10 rfl (by decide) ?_
      refine go_istore 11 rfl (Nat.le_of_ble_eq_true rfl) [(0, _), (1, _), (2, _), (3, _), (4, _)] rfl ?_
      refine go_iconst 0 12 rfl (by decide) ?_
      refine go_istore 13 rfl (Nat.le_of_ble_eq_true rfl) [(0, _), (1, _), (2, _), (3, _), (4, _), (5, _)] rfl ?_
      obtain ⟨r13, c, h⟩ := bd_inv h
      refine w_M_taken_21 _ _ _ _ ?_ _ _ c
      refine go_iinc 1 85 rfl 3 rfl (by decide) (Nat.le_of_ble_eq_true rfl) [(0, _), (1, _), (2, _), (3, _), (4, _), (5, _)] rfl ?_
      refine go_goto 7 86 rfl (by decide) ?_
      cases h
      refine go_sub [0, 1, 2, 3] rfl ?_
      have g9 := ih _ hc
      exact g9
set_option maxRecDepth 20000 in
theorem w_M_taken_172 {l : Launch} {post : Option PV → Mm → Prop} (c1 : Int32) (c2 : Int32) (c4 : Int32) (M : Mm)  {r : Int32 × Int32} (kk : Go l X_M_taken post 242 [(0, vr 8 0), (1, vi c1), (2, vi c2), (3, vi r.1), (4, vi c4), (5, vi r.2)] [] M) : ∀ (n : Nat) (s : Int32 × Int32), lpN (b_M_taken_172 c2 c4 M) n s = some r → Go l X_M_taken post 172 [(0, vr 8 0), (1, vi c1), (2, vi c2), (3, vi s.1), (4, vi c4), (5, vi s.2)] [] M := by
  intro n
  induction n with
  | zero => intro s hc; exact (lpN_0 hc).elim
  | succ n ih =>
    intro s hc
    obtain ⟨q, h, hc⟩ := lpN_inv hc
    unfold b_M_taken_172 at h
    refine go_iload 96 rfl 5 rfl ?_
    refine go_iload_n 97 rfl 2 rfl rfl ?_
    refine go_icmp_ge 242 98 rfl (by decide) (fun c => ?_) (fun c => ?_)
    · replace h := ite_t c h
      cases h
      obtain rfl := lpq_r hc
      exact kk
    · replace h := ite_f c h
      refine go_aload_n 99 rfl 0 rfl rfl ?_
      refine go_getfield 9 _ 100 rfl (by first | decide | exact ok0 (by omega) | exact ok1 (by omega) | exact ok2 (by omega) | exact ok7 (by omega)) rfl fg_M_32 rfl ?_
      refine go_iconst 4 101 rfl (by decide) ?_
      refine go_iload 102 rfl 5 rfl ?_
      refine go_imul 103 rfl ?_
      obtain ⟨c, h⟩ := ck_inv h
      refine go_iaload 104 rfl (by first | decide | exact ok0 (by omega) | exact ok1 (by omega) | exact ok2 (by omega) | exact ok7 (by omega)) (inb_vp c) ?_
      refine go_iconst 2 105 rfl (by decide) ?_
      refine go_icmp_ne 217 106 rfl (by decide) (fun c => ?_) (fun c => ?_)
      · replace h := ite_f c h
        refine go_iconst 0 121 rfl (by decide) ?_
        refine go_istore 122 rfl (Nat.le_of_ble_eq_true rfl) [(0, _), (1, _), (2, _), (3, _), (4, _), (5, _), (6, _)] rfl ?_
        refine go_iload 123 rfl 6 rfl ?_
        refine go_if_eq 234 124 rfl (by decide) (fun _ => ?_) (fun c => absurd c (by decide))
        refine go_iload_n 131 rfl 3 rfl rfl ?_
        refine go_istore_n 132 rfl rfl (Nat.le_of_ble_eq_true rfl) [(0, _), (1, _), (2, _), (3, _), (4, _), (5, _), (6, _)] rfl ?_
        refine go_iinc 1 133 rfl 5 rfl (by decide) (Nat.le_of_ble_eq_true rfl) [(0, _), (1, _), (2, _), (3, _), (4, _), (5, _), (6, _)] rfl ?_
        refine go_goto 172 134 rfl (by decide) ?_
        cases h
        refine go_sub [0, 1, 2, 3, 4, 5] rfl ?_
        have g9 := ih _ hc
        exact g9
      · replace h := ite_t c h
        refine go_iload 107 rfl 4 rfl ?_
        refine go_iload 108 rfl 5 rfl ?_
        refine go_icmp_eq 213 109 rfl (by decide) (fun c => ?_) (fun c => ?_)
        · replace h := ite_t c h
          refine go_iconst 1 119 rfl (by decide) ?_
          refine go_goto 218 120 rfl (by decide) ?_
          refine go_istore 122 rfl (Nat.le_of_ble_eq_true rfl) [(0, _), (1, _), (2, _), (3, _), (4, _), (5, _), (6, _)] rfl ?_
          refine go_iload 123 rfl 6 rfl ?_
          refine go_if_eq 234 124 rfl (by decide) (fun c => absurd c (by decide)) (fun _ => ?_)
          refine go_iload_n 125 rfl 3 rfl rfl ?_
          refine go_iconst 1 126 rfl (by decide) ?_
          refine go_iload 127 rfl 4 rfl ?_
          refine go_ishl 128 rfl ?_
          refine go_ior 129 rfl ?_
          refine go_goto 235 130 rfl (by decide) ?_
          refine go_istore_n 132 rfl rfl (Nat.le_of_ble_eq_true rfl) [(0, _), (1, _), (2, _), (3, _), (4, _), (5, _), (6, _)] rfl ?_
          refine go_iinc 1 133 rfl 5 rfl (by decide) (Nat.le_of_ble_eq_true rfl) [(0, _), (1, _), (2, _), (3, _), (4, _), (5, _), (6, _)] rfl ?_
          refine go_goto 172 134 rfl (by decide) ?_
          cases h
          refine go_sub [0, 1, 2, 3, 4, 5] rfl ?_
          have g9 := ih _ hc
          exact g9
        · replace h := ite_f c h
          refine go_aload_n 110 rfl 0 rfl rfl ?_
          refine go_getfield 9 _ 111 rfl (by first | decide | exact ok0 (by omega) | exact ok1 (by omega) | exact ok2 (by omega) | exact ok7 (by omega)) rfl fg_M_32 rfl ?_
          refine go_iconst 3 112 rfl (by decide) ?_
          refine go_iload 113 rfl 4 rfl ?_
          refine go_imul 114 rfl ?_
          refine go_iload 115 rfl 5 rfl ?_
          refine go_iadd 116 rfl ?_
          obtain ⟨c, h⟩ := ck_inv h
          refine go_iaload 117 rfl (by first | decide | exact ok0 (by omega) | exact ok1 (by omega) | exact ok2 (by omega) | exact ok7 (by omega)) (inb_vp c) ?_
          refine go_if_le 217 118 rfl (by decide) (fun c => ?_) (fun c => ?_)
          · replace h := ite_t c h
            refine go_iconst 0 121 rfl (by decide) ?_
            refine go_istore 122 rfl (Nat.le_of_ble_eq_true rfl) [(0, _), (1, _), (2, _), (3, _), (4, _), (5, _), (6, _)] rfl ?_
            refine go_iload 123 rfl 6 rfl ?_
            refine go_if_eq 234 124 rfl (by decide) (fun _ => ?_) (fun c => absurd c (by decide))
            refine go_iload_n 131 rfl 3 rfl rfl ?_
            refine go_istore_n 132 rfl rfl (Nat.le_of_ble_eq_true rfl) [(0, _), (1, _), (2, _), (3, _), (4, _), (5, _), (6, _)] rfl ?_
            refine go_iinc 1 133 rfl 5 rfl (by decide) (Nat.le_of_ble_eq_true rfl) [(0, _), (1, _), (2, _), (3, _), (4, _), (5, _), (6, _)] rfl ?_
            refine go_goto 172 134 rfl (by decide) ?_
            cases h
            refine go_sub [0, 1, 2, 3, 4, 5] rfl ?_
            have g9 := ih _ hc
            exact g9
          · replace h := ite_f c h
            refine go_iconst 1 119 rfl (by decide) ?_
            refine go_goto 218 120 rfl (by decide) ?_
            refine go_istore 122 rfl (Nat.le_of_ble_eq_true rfl) [(0, _), (1, _), (2, _), (3, _), (4, _), (5, _), (6, _)] rfl ?_
            refine go_iload 123 rfl 6 rfl ?_
            refine go_if_eq 234 124 rfl (by decide) (fun c => absurd c (by decide)) (fun _ => ?_)
            refine go_iload_n 125 rfl 3 rfl rfl ?_
            refine go_iconst 1 126 rfl (by decide) ?_
            refine go_iload 127 rfl 4 rfl ?_
            refine go_ishl 128 rfl ?_
            refine go_ior 129 rfl ?_
            refine go_goto 235 130 rfl (by decide) ?_
            refine go_istore_n 132 rfl rfl (Nat.le_of_ble_eq_true rfl) [(0, _), (1, _), (2, _), (3, _), (4, _), (5, _), (6, _)] rfl ?_
            refine go_iinc 1 133 rfl 5 rfl (by decide) (Nat.le_of_ble_eq_true rfl) [(0, _), (1, _), (2, _), (3, _), (4, _), (5, _), (6, _)] rfl ?_
            refine go_goto 172 134 rfl (by decide) ?_
            cases h
            refine go_sub [0, 1, 2, 3, 4, 5] rfl ?_
            have g9 := ih _ hc
            exact g9
set_option maxRecDepth 20000 in
theorem w_M_taken_163 {l : Launch} {post : Option PV → Mm → Prop} (c1 : Int32) (c2 : Int32) (M : Mm)  {r : Int32 × Int32} (kk : Go l X_M_taken post 248 [(0, vr 8 0), (1, vi c1), (2, vi c2), (3, vi r.1), (4, vi r.2)] [] M) : ∀ (n : Nat) (s : Int32 × Int32), lpN (b_M_taken_163 c2 M) n s = some r → Go l X_M_taken post 163 [(0, vr 8 0), (1, vi c1), (2, vi c2), (3, vi s.1), (4, vi s.2)] [] M := by
  intro n
  induction n with
  | zero => intro s hc; exact (lpN_0 hc).elim
  | succ n ih =>
    intro s hc
    obtain ⟨q, h, hc⟩ := lpN_inv hc
    unfold b_M_taken_163 at h
    refine go_iload 91 rfl 4 rfl ?_
    refine go_iload_n 92 rfl 2 rfl rfl ?_
    refine go_icmp_ge 248 93 rfl (by decide) (fun c => ?_) (fun c => ?_)
    · replace h := ite_t c h
      cases h
      obtain rfl := lpq_r hc
      exact kk
    · replace h := ite_f c h
      refine go_iconst 0 94 rfl (by decide) ?_
      refine go_istore 95 rfl (Nat.le_of_ble_eq_true rfl) [(0, _), (1, _), (2, _), (3, _), (4, _), (5, _)] rfl ?_
      obtain ⟨r15, c, h⟩ := bd_inv h
      refine w_M_taken_172 _ _ _ _ ?_ _ _ c
      refine go_iinc 1 135 rfl 4 rfl (by decide) (Nat.le_of_ble_eq_true rfl) [(0, _), (1, _), (2, _), (3, _), (4, _), (5, _)] rfl ?_
      refine go_goto 163 136 rfl (by decide) ?_
      cases h
      refine go_sub [0, 1, 2, 3, 4] rfl ?_
      have g9 := ih _ hc
      exact g9
set_option maxRecDepth 20000 in
theorem e_M_taken {l : Launch} {a1 : Int32} {a2 : Int32} {M : Mm} {r : Int32 × Mm}  (h : m_M_taken a1 a2 M = some r) : Ev l X_M_taken [vr 8 0, vi a1, vi a2] M (fun v M2 => v = (some (vi r.1)) ∧ M2 = r.2) := by
  refine Ev.of mk_M_taken [(0, vr 8 0), (1, vi a1), (2, vi a2)] (fun _ => rfl) (fun _ => (Nat.le_of_ble_eq_true rfl)) ?_
  unfold m_M_taken at h
  refine go_aload_n 0 rfl 0 rfl rfl ?_
  refine go_iload_n 1 rfl 1 rfl rfl ?_
  obtain ⟨r1, c, h⟩ := bd_inv h
  refine go_callV1 _ 2 rfl (e_M_spread c) mk_M_spread (by first | decide | exact ok0 (by omega) | exact ok1 (by omega) | exact ok2 (by omega) | exact ok7 (by omega)) rfl cv_M_109 rfl ⟨(Nat.le_of_ble_eq_true rfl), (Nat.le_of_ble_eq_true rfl)⟩ (Nat.le_of_ble_eq_true rfl) rfl ?_
  refine go_iconst 0 3 rfl (by decide) ?_
  refine go_istore_n 4 rfl rfl (Nat.le_of_ble_eq_true rfl) [(0, _), (1, _), (2, _), (3, _)] rfl ?_
  obtain ⟨r14, c, h⟩ := bd_inv h
  refine w_M_taken_7 _ _ ?_ _ _ c
  refine go_iconst 0 87 rfl (by decide) ?_
  refine go_istore_n 88 rfl rfl (Nat.le_of_ble_eq_true rfl) [(0, _), (1, _), (2, _), (3, _)] rfl ?_
  refine go_iconst 0 89 rfl (by decide) ?_
  refine go_istore 90 rfl (Nat.le_of_ble_eq_true rfl) [(0, _), (1, _), (2, _), (3, _), (4, _)] rfl ?_
  obtain ⟨r16, c, h⟩ := bd_inv h
  refine w_M_taken_163 _ _ _ ?_ _ _ c
  refine go_iload_n 137 rfl 3 rfl rfl ?_
  cases h
  exact go_ireturn 138 rfl rfl rfl ⟨rfl, rfl⟩
