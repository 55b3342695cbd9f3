def X_M_bit : MX := (⟨"OmegaDeskModel", "bit", "([JI)Z"⟩, prog_8_method_23_code, 2, some .boolean, { frames := 0, cells := 0, slots := 0, locals := 0 },
  [(0, .aload_n 0, 1), (1, .iload_n 1, 2), (2, .bipush 6, 4), (4, .ishr, 5), (5, .laload, 6), (6, .iload_n 1, 7), (7, .bipush 63, 9), (9, .iand, 10), (10, .lshr, 11), (11, .lconst 1, 12), (12, .land, 13), (13, .lconst 1, 14), (14, .lcmp, 15), (15, .ifCond .ne 7, 18), (18, .iconst 1, 19), (19, .goto 4, 22), (22, .iconst 0, 23), (23, .ireturn, 24)])
set_option maxRecDepth 20000 in
theorem mk_M_bit : Mk X_M_bit := ⟨by unfold TBk; decide +kernel, by decide +kernel, wb_682, ⟨by decide, by decide⟩, rfl, rfl, wb_6⟩
def m_M_bit (a0 : Nat) (a1 : Int32) (M : Mm) : Option (Bool) :=
  ck (inb (a1 >>> ((6 : Int32) &&& 31)) (lenL a0)) <|
  if (lg_cmp (((M.2 (2, a0) (a1 >>> ((6 : Int32) &&& 31)).toNatClampNeg) >>> ((a1 &&& (63 : Int32)).toInt64 &&& 63)) &&& (1 : Int64)) (1 : Int64)) = 0 then
    some true
  else
    some false
set_option maxRecDepth 20000 in
theorem e_M_bit {l : Launch} {a0 : Nat} {a1 : Int32} {M : Mm} {r : Bool} (h0 : a0 < 4) (h : m_M_bit a0 a1 M = some r) : Ev l X_M_bit [vr 2 a0, vi a1] M (fun v M2 => v = (some (vi (bI r))) ∧ M2 = M) := by
  refine Ev.of mk_M_bit [(0, vr 2 a0), (1, vi a1)] (fun _ => rfl) (fun _ => (Nat.le_of_ble_eq_true rfl)) ?_
  unfold m_M_bit at h
  refine go_aload_n 0 rfl 0 rfl rfl ?_
  refine go_iload_n 1 rfl 1 rfl rfl ?_
  refine go_bipush 6 2 rfl (by decide) ?_
  refine go_ishr 3 rfl ?_
  obtain ⟨c, h⟩ := ck_inv h
  refine go_laload 4 rfl (by first | decide | exact ok0 (by omega) | exact ok1 (by omega) | exact ok2 (by omega) | exact ok7 (by omega)) (inb_vp c) ?_
  refine go_iload_n 5 rfl 1 rfl rfl ?_
  refine go_bipush 63 6 rfl (by decide) ?_
  refine go_iand 7 rfl ?_
  refine go_lshr 8 rfl ?_
  refine go_lconst 1 9 rfl (by decide) ?_
  refine go_land 10 rfl ?_
  refine go_lconst 1 11 rfl (by decide) ?_
  refine go_lcmp 12 rfl ?_
  refine go_if_ne 22 13 rfl (by decide) (fun c => ?_) (fun c => ?_)
  · replace h := ite_f c h
    refine go_iconst 0 16 rfl (by decide) ?_
    cases h
    exact go_ireturn 17 rfl rfl rfl ⟨rfl, rfl⟩
  · replace h := ite_t c h
    refine go_iconst 1 14 rfl (by decide) ?_
    refine go_goto 23 15 rfl (by decide) ?_
    cases h
    exact go_ireturn 17 rfl rfl rfl ⟨rfl, rfl⟩
def X_M_mark : MX := (⟨"OmegaDeskModel", "mark", "([JI)V"⟩, prog_8_method_24_code, 2, none, { frames := 0, cells := 0, slots := 0, locals := 0 },
  [(0, .aload_n 0, 1), (1, .iload_n 1, 2), (2, .bipush 6, 4), (4, .ishr, 5), (5, .aload_n 0, 6), (6, .iload_n 1, 7), (7, .bipush 6, 9), (9, .ishr, 10), (10, .laload, 11), (11, .lconst 1, 12), (12, .iload_n 1, 13), (13, .bipush 63, 15), (15, .iand, 16), (16, .lshl, 17), (17, .lor, 18), (18, .lastore, 19), (19, .return_, 20)])
set_option maxRecDepth 20000 in
theorem mk_M_mark : Mk X_M_mark := ⟨by unfold TBk; decide +kernel, by decide +kernel, wb_666, ⟨by decide, by decide⟩, rfl, rfl, wb_6⟩
def m_M_mark (a0 : Nat) (a1 : Int32) (M : Mm) : Option (Mm) :=
  ck (inb (a1 >>> ((6 : Int32) &&& 31)) (lenL a0)) <|
  ck (inb (a1 >>> ((6 : Int32) &&& 31)) (lenL a0)) <|
  bd (some (uL M (2, a0) (a1 >>> ((6 : Int32) &&& 31)).toNatClampNeg ((M.2 (2, a0) (a1 >>> ((6 : Int32) &&& 31)).toNatClampNeg) ||| ((1 : Int64) <<< ((a1 &&& (63 : Int32)).toInt64 &&& 63))))) fun M1 =>
  some M1
set_option maxRecDepth 20000 in
theorem e_M_mark {l : Launch} {a0 : Nat} {a1 : Int32} {M : Mm} {r : Mm} (h0 : a0 < 4) (h : m_M_mark a0 a1 M = some r) : Ev l X_M_mark [vr 2 a0, vi a1] M (fun v M2 => v = none ∧ M2 = r) := by
  refine Ev.of mk_M_mark [(0, vr 2 a0), (1, vi a1)] (fun _ => rfl) (fun _ => (Nat.le_of_ble_eq_true rfl)) ?_
  unfold m_M_mark at h
  refine go_aload_n 0 rfl 0 rfl rfl ?_
  refine go_iload_n 1 rfl 1 rfl rfl ?_
  refine go_bipush 6 2 rfl (by decide) ?_
  refine go_ishr 3 rfl ?_
  refine go_aload_n 4 rfl 0 rfl rfl ?_
  refine go_iload_n 5 rfl 1 rfl rfl ?_
  refine go_bipush 6 6 rfl (by decide) ?_
  refine go_ishr 7 rfl ?_
  obtain ⟨c, h⟩ := ck_inv h
  refine go_laload 8 rfl (by first | decide | exact ok0 (by omega) | exact ok1 (by omega) | exact ok2 (by omega) | exact ok7 (by omega)) (inb_vp c) ?_
  refine go_lconst 1 9 rfl (by decide) ?_
  refine go_iload_n 10 rfl 1 rfl rfl ?_
  refine go_bipush 63 11 rfl (by decide) ?_
  refine go_iand 12 rfl ?_
  refine go_lshl 13 rfl ?_
  refine go_lor 14 rfl ?_
  obtain ⟨c, h⟩ := ck_inv h
  refine go_lastore 15 rfl (by first | decide | exact ok0 (by omega) | exact ok1 (by omega) | exact ok2 (by omega) | exact ok7 (by omega)) (inb_vp c) ?_
  obtain ⟨_, c, h⟩ := bd_inv h
  cases c
  cases h
  exact go_return 16 rfl rfl ⟨rfl, rfl⟩
def X_M_goOn : MX := (⟨"OmegaDeskModel", "goOn", "(IIII)Z"⟩, prog_8_method_26_code, 10, some .boolean, { frames := 0, cells := 0, slots := 0, locals := 0 },
  [(0, .iconst 0, 1), (1, .istore 5, 3), (3, .iconst 0, 4), (4, .istore 6, 6), (6, .iload 6, 8), (8, .iconst 2, 9), (9, .if_icmp .ge 164, 12), (12, .iconst 0, 13), (13, .istore 7, 15), (15, .iconst 0, 16), (16, .istore 8, 18), (18, .iload 8, 20), (20, .aload_n 0, 21), (21, .getfield 16, 24), (24, .iload_n 2, 25), (25, .iaload, 26), (26, .if_icmp .ge 47, 29), (29, .iload 4, 31), (31, .iload 8, 33), (33, .ishr, 34), (34, .iconst 1, 35), (35, .iand, 36), (36, .iconst 1, 37), (37, .if_icmp .ne 26, 40), (40, .iload 7, 42), (42, .aload_n 0, 43), (43, .getfield 7, 46), (46, .bipush 8, 48), (48, .iload_n 2, 49), (49, .imul, 50), (50, .iconst 4, 51), (51, .iload 6, 53), (53, .imul, 54), (54, .iadd, 55), (55, .iload 8, 57), (57, .iadd, 58), (58, .iaload, 59), (59, .ior, 60), (60, .goto 5, 63), (63, .iload 7, 65), (65, .istore 7, 67), (67, .iinc 8 1, 70), (70, .goto (-52), 73), (73, .iconst 0, 74), (74, .istore 8, 76), (76, .iload 8, 78), (78, .aload_n 0, 79), (79, .getfield 16, 82), (82, .iload_n 1, 83), (83, .iaload, 84), (84, .if_icmp .ge 83, 87), (87, .aload_n 0, 88), (88, .getfield 7, 91), (91, .bipush 8, 93), (93, .iload_n 1, 94), (94, .imul, 95), (95, .iconst 4, 96), (96, .iload 6, 98), (98, .imul, 99), (99, .iadd, 100), (100, .iload_n 3, 101), (101, .iadd, 102), (102, .iaload, 103), (103, .iload 8, 105), (105, .ishr, 106), (106, .iconst 1, 107), (107, .iand, 108), (108, .iconst 1, 109), (109, .if_icmp .ne 7, 112), (112, .iconst 1, 113), (113, .goto 4, 116), (116, .iconst 0, 117), (117, .istore 9, 119), (119, .iload 9, 121), (121, .ifCond .eq 40, 124), (124, .aload_n 0, 125), (125, .getfield 38, 128), (128, .iload 8, 130), (130, .iaload, 131), (131, .iload 7, 133), (133, .ishr, 134), (134, .iconst 1, 135), (135, .iand, 136), (136, .ifCond .ne 25, 139), (139, .aload_n 0, 140), (140, .getfield 38, 143), (143, .iload 8, 145), (145, .aload_n 0, 146), (146, .getfield 38, 149), (149, .iload 8, 151), (151, .iaload, 152), (152, .iconst 1, 153), (153, .iload 7, 155), (155, .ishl, 156), (156, .ior, 157), (157, .iastore, 158), (158, .iconst 1, 159), (159, .istore 5, 161), (161, .iinc 8 1, 164), (164, .goto (-88), 167), (167, .iinc 6 1, 170), (170, .goto (-164), 173), (173, .iload 5, 175), (175, .ireturn, 176)])
set_option maxRecDepth 20000 in
theorem mk_M_goOn : Mk X_M_goOn := ⟨by unfold TBk; decide +kernel, by decide +kernel, wb_656, ⟨by decide, by decide⟩, rfl, rfl, wb_6⟩
theorem fg_M_38 : FG "OmegaDeskModel" 38 8 11 := ⟨R_M, F_M, 12, rfl, by decide, uw_M, Or.inl wb_536⟩
def b_M_goOn_18 (c2 : Int32) (c4 : Int32) (c6 : Int32) (M : Mm) (s : Int32 × Int32) : Option ((Int32 × Int32) ⊕ (Int32 × Int32)) :=
  ck (inb c2 (lenI 18)) <|
  if (M.1 (1, 18) c2.toNatClampNeg) ≤ s.2 then
    some (Sum.inr (s.1, s.2))
  else
    if ((c4 >>> (s.2 &&& 31)) &&& (1 : Int32)) = (1 : Int32) then
      ck (inb ((((8 : Int32) * c2) + ((4 : Int32) * c6)) + s.2) (lenI 16)) <|
      bd (some (s.1 ||| (M.1 (1, 16) ((((8 : Int32) * c2) + ((4 : Int32) * c6)) + s.2).toNatClampNeg))) fun x1 =>
      some (Sum.inl (x1, (s.2 + 1)))
    else
      some (Sum.inl (s.1, (s.2 + 1)))
def b_M_goOn_76 (c1 : Int32) (c3 : Int32) (c6 : Int32) (c7 : Int32) (s : Int32 × Int32 × Mm) : Option ((Int32 × Int32 × Mm) ⊕ (Int32 × Int32 × Mm)) :=
  ck (inb c1 (lenI 18)) <|
  if (s.2.2.1 (1, 18) c1.toNatClampNeg) ≤ s.2.1 then
    some (Sum.inr (s.1, s.2.1, s.2.2))
  else
    ck (inb ((((8 : Int32) * c1) + ((4 : Int32) * c6)) + c3) (lenI 16)) <|
    if (((s.2.2.1 (1, 16) ((((8 : Int32) * c1) + ((4 : Int32) * c6)) + c3).toNatClampNeg) >>> (s.2.1 &&& 31)) &&& (1 : Int32)) = (1 : Int32) then
      ck (inb s.2.1 (lenI 22)) <|
      if (((s.2.2.1 (1, 22) s.2.1.toNatClampNeg) >>> (c7 &&& 31)) &&& (1 : Int32)) = 0 then
        ck (inb s.2.1 (lenI 22)) <|
        ck (inb s.2.1 (lenI 22)) <|
        bd (some (uI s.2.2 (1, 22) s.2.1.toNatClampNeg ((s.2.2.1 (1, 22) s.2.1.toNatClampNeg) ||| ((1 : Int32) <<< (c7 &&& 31))))) fun M3 =>
        some (Sum.inl ((1 : Int32), (s.2.1 + 1), M3))
      else
        some (Sum.inl (s.1, (s.2.1 + 1), s.2.2))
    else
      some (Sum.inl (s.1, (s.2.1 + 1), s.2.2))
def b_M_goOn_6 (c1 : Int32) (c2 : Int32) (c3 : Int32) (c4 : Int32) (s : Int32 × Int32 × Mm) : Option ((Int32 × Int32 × Mm) ⊕ (Int32 × Int32 × Mm)) :=
  if (2 : Int32) ≤ s.2.1 then
    some (Sum.inr (s.1, s.2.1, s.2.2))
  else
    bd (lp (b_M_goOn_18 c2 c4 s.2.1 s.2.2) ((0 : Int32), (0 : Int32))) fun r2 =>
    bd (lp (b_M_goOn_76 c1 c3 s.2.1 r2.1) (s.1, (0 : Int32), s.2.2)) fun r4 =>
    some (Sum.inl (r4.1, (s.2.1 + 1), r4.2.2))
def m_M_goOn (a1 : Int32) (a2 : Int32) (a3 : Int32) (a4 : Int32) (M : Mm) : Option (Bool × Mm) :=
  bd (lp (b_M_goOn_6 a1 a2 a3 a4) ((0 : Int32), (0 : Int32), M)) fun r5 =>
  ck (isb r5.1) <|
  some ((tb r5.1), r5.2.2)
set_option maxRecDepth 20000 in
theorem w_M_goOn_18 {l : Launch} {post : Option PV → Mm → Prop} (c1 : Int32) (c2 : Int32) (c3 : Int32) (c4 : Int32) (c5 : Int32) (c6 : Int32) (M : Mm)  {r : Int32 × Int32} (kk : Go l X_M_goOn post 73 [(0, vr 8 0), (1, vi c1), (2, vi c2), (3, vi c3), (4, vi c4), (5, vi c5), (6, vi c6), (7, vi r.1), (8, vi r.2)] [] M) : ∀ (n : Nat) (s : Int32 × Int32), lpN (b_M_goOn_18 c2 c4 c6 M) n s = some r → Go l X_M_goOn post 18 [(0, vr 8 0), (1, vi c1), (2, vi c2), (3, vi c3), (4, vi c4), (5, vi c5), (6, vi c6), (7, vi s.1), (8, vi s.2)] [] M := by
  intro n
  induction n with
  | zero => intro s hc; exact (lpN_0 hc).elim
  | succ n ih =>
    intro s hc
    obtain ⟨q, h, hc⟩ := lpN_inv hc
    unfold b_M_goOn_18 at h
    refine go_iload 11 rfl 8 rfl ?_
    refine go_aload_n 12 rfl 0 rfl rfl ?_
    refine go_getfield 3 _ 13 rfl (by first | decide | exact ok0 (by omega) | exact ok1 (by omega) | exact ok2 (by omega) | exact ok7 (by omega)) rfl fg_M_16 rfl ?_
    refine go_iload_n 14 rfl 2 rfl rfl ?_
    obtain ⟨c, h⟩ := ck_inv h
    refine go_iaload 15 rfl (by first | decide | exact ok0 (by omega) | exact ok1 (by omega) | exact ok2 (by omega) | exact ok7 (by omega)) (inb_vp c) ?_
    refine go_icmp_ge 73 16 rfl (by decide) (fun c => ?_) (fun c => ?_)
    · replace h := ite_t c h
      cases h
      obtain rfl := lpq_r hc
      exact kk
    · replace h := ite_f c h
      refine go_iload 17 rfl 4 rfl ?_
      refine go_iload 18 rfl 8 rfl ?_
      refine go_ishr 19 rfl ?_
      refine go_iconst 1 20 rfl (by decide) ?_
      refine go_iand 21 rfl ?_
      refine go_iconst 1 22 rfl (by decide) ?_
      refine go_icmp_ne 63 23 rfl (by decide) (fun c => ?_) (fun c => ?_)
      · replace h := ite_f c h
        refine go_iload 39 rfl 7 rfl ?_
        refine go_istore 40 rfl (Nat.le_of_ble_eq_true rfl) [(0, _), (1, _), (2, _), (3, _), (4, _), (5, _), (6, _), (7, _), (8, _)] rfl ?_
        refine go_iinc 1 41 rfl 8 rfl (by decide) (Nat.le_of_ble_eq_true rfl) [(0, _), (1, _), (2, _), (3, _), (4, _), (5, _), (6, _), (7, _), (8, _)] rfl ?_
        refine go_goto 18 42 rfl (by decide) ?_
        cases h
        have g9 := ih _ hc
        exact g9
      · replace h := ite_t c h
        refine go_iload 24 rfl 7 rfl ?_
        refine go_aload_n 25 rfl 0 rfl rfl ?_
        refine go_getfield 1 _ 26 rfl (by first | decide | exact ok0 (by omega) | exact ok1 (by omega) | exact ok2 (by omega) | exact ok7 (by omega)) rfl fg_M_7 rfl ?_
        refine go_bipush 8 27 rfl (by decide) ?_
        refine go_iload_n 28 rfl 2 rfl rfl ?_
        refine go_imul 29 rfl ?_
        refine go_iconst 4 30 rfl (by decide) ?_
        refine go_iload 31 rfl 6 rfl ?_
        refine go_imul 32 rfl ?_
        refine go_iadd 33 rfl ?_
        refine go_iload 34 rfl 8 rfl ?_
        refine go_iadd 35 rfl ?_
        obtain ⟨c, h⟩ := ck_inv h
        refine go_iaload 36 rfl (by first | decide | exact ok0 (by omega) | exact ok1 (by omega) | exact ok2 (by omega) | exact ok7 (by omega)) (inb_vp c) ?_
        refine go_ior 37 rfl ?_
        refine go_goto 65 38 rfl (by decide) ?_
        obtain ⟨_, c, h⟩ := bd_inv h
        cases c
        refine go_istore 40 rfl (Nat.le_of_ble_eq_true rfl) [(0, _), (1, _), (2, _), (3, _), (4, _), (5, _), (6, _), (7, _), (8, _)] rfl ?_
        refine go_iinc 1 41 rfl 8 rfl (by decide) (Nat.le_of_ble_eq_true rfl) [(0, _), (1, _), (2, _), (3, _), (4, _), (5, _), (6, _), (7, _), (8, _)] rfl ?_
        refine go_goto 18 42 rfl (by decide) ?_
        cases h
        have g9 := ih _ hc
        exact g9
set_option maxRecDepth 20000 in
theorem w_M_goOn_76 {l : Launch} {post : Option PV → Mm → Prop} (c1 : Int32) (c2 : Int32) (c3 : Int32) (c4 : Int32) (c6 : Int32) (c7 : Int32)  {r : Int32 × Int32 × Mm} (kk : Go l X_M_goOn post 167 [(0, vr 8 0), (1, vi c1), (2, vi c2), (3, vi c3), (4, vi c4), (5, vi r.1), (6, vi c6), (7, vi c7), (8, vi r.2.1)] [] r.2.2) : ∀ (n : Nat) (s : Int32 × Int32 × Mm), lpN (b_M_goOn_76 c1 c3 c6 c7) n s = some r → Go l X_M_goOn post 76 [(0, vr 8 0), (1, vi c1), (2, vi c2), (3, vi c3), (4, vi c4), (5, vi s.1), (6, vi c6), (7, vi c7), (8, vi s.2.1)] [] s.2.2 := by
  intro n
  induction n with
  | zero => intro s hc; exact (lpN_0 hc).elim
  | succ n ih =>
    intro s hc
    obtain ⟨q, h, hc⟩ := lpN_inv hc
    unfold b_M_goOn_76 at h
    refine go_iload 45 rfl 8 rfl ?_
    refine go_aload_n 46 rfl 0 rfl rfl ?_
    refine go_getfield 3 _ 47 rfl (by first | decide | exact ok0 (by omega) | exact ok1 (by omega) | exact ok2 (by omega) | exact ok7 (by omega)) rfl fg_M_16 rfl ?_
    refine go_iload_n 48 rfl 1 rfl rfl ?_
    obtain ⟨c, h⟩ := ck_inv h
    refine go_iaload 49 rfl (by first | decide | exact ok0 (by omega) | exact ok1 (by omega) | exact ok2 (by omega) | exact ok7 (by omega)) (inb_vp c) ?_
    refine go_icmp_ge 167 50 rfl (by decide) (fun c => ?_) (fun c => ?_)
    · replace h := ite_t c h
      cases h
      obtain rfl := lpq_r hc
      exact kk
    · replace h := ite_f c h
      refine go_aload_n 51 rfl 0 rfl rfl ?_
      refine go_getfield 1 _ 52 rfl (by first | decide | exact ok0 (by omega) | exact ok1 (by omega) | exact ok2 (by omega) | exact ok7 (by omega)) rfl fg_M_7 rfl ?_
      refine go_bipush 8 53 rfl (by decide) ?_
      refine go_iload_n 54 rfl 1 rfl rfl ?_
      refine go_imul 55 rfl ?_
      refine go_iconst 4 56 rfl (by decide) ?_
      refine go_iload 57 rfl 6 rfl ?_
      refine go_imul 58 rfl ?_
      refine go_iadd 59 rfl ?_
      refine go_iload_n 60 rfl 3 rfl rfl ?_
      refine go_iadd 61 rfl ?_
      obtain ⟨c, h⟩ := ck_inv h
      refine go_iaload 62 rfl (by first | decide | exact ok0 (by omega) | exact ok1 (by omega) | exact ok2 (by omega) | exact ok7 (by omega)) (inb_vp c) ?_
      refine go_iload 63 rfl 8 rfl ?_
      refine go_ishr 64 rfl ?_
      refine go_iconst 1 65 rfl (by decide) ?_
      refine go_iand 66 rfl ?_
      refine go_iconst 1 67 rfl (by decide) ?_
      refine go_icmp_ne 116 68 rfl (by decide) (fun c => ?_) (fun c => ?_)
      · replace h := ite_f c h
        refine go_iconst 0 71 rfl (by decide) ?_
        refine go_istore 72 rfl (Nat.le_of_ble_eq_true rfl) [(0, _), (1, _), (2, _), (3, _), (4, _), (5, _), (6, _), (7, _), (8, _), (9, _)] rfl ?_
        refine go_iload 73 rfl 9 rfl ?_
        refine go_if_eq 161 74 rfl (by decide) (fun _ => ?_) (fun c => absurd c (by decide))
        refine go_iinc 1 98 rfl 8 rfl (by decide) (Nat.le_of_ble_eq_true rfl) [(0, _), (1, _), (2, _), (3, _), (4, _), (5, _), (6, _), (7, _), (8, _), (9, _)] rfl ?_
        refine go_goto 76 99 rfl (by decide) ?_
        cases h
        refine go_sub [0, 1, 2, 3, 4, 5, 6, 7, 8] rfl ?_
        have g9 := ih _ hc
        exact g9
      · replace h := ite_t c h
        refine go_iconst 1 69 rfl (by decide) ?_
        refine go_goto 117 70 rfl (by decide) ?_
        refine go_istore 72 rfl (Nat.le_of_ble_eq_true rfl) [(0, _), (1, _), (2, _), (3, _), (4, _), (5, _), (6, _), (7, _), (8, _), (9, _)] rfl ?_
        refine go_iload 73 rfl 9 rfl ?_
        refine go_if_eq 161 74 rfl (by decide) (fun c => absurd c (by decide)) (fun _ => ?_)
        refine go_aload_n 75 rfl 0 rfl rfl ?_
        refine go_getfield 11 _ 76 rfl (by first | decide | exact ok0 (by omega) | exact ok1 (by omega) | exact ok2 (by omega) | exact ok7 (by omega)) rfl fg_M_38 rfl ?_
        refine go_iload 77 rfl 8 rfl ?_
        obtain ⟨c, h⟩ := ck_inv h
        refine go_iaload 78 rfl (by first | decide | exact ok0 (by omega) | exact ok1 (by omega) | exact ok2 (by omega) | exact ok7 (by omega)) (inb_vp c) ?_
        refine go_iload 79 rfl 7 rfl ?_
        refine go_ishr 80 rfl ?_
        refine go_iconst 1 81 rfl (by decide) ?_
        refine go_iand 82 rfl ?_
        refine go_if_ne 161 83 rfl (by decide) (fun c => ?_) (fun c => ?_)
        · replace h := ite_f c h
          refine go_iinc 1 98 rfl 8 rfl (by decide) (Nat.le_of_ble_eq_true rfl) [(0, _), (1, _), (2, _), (3, _), (4, _), (5, _), (6, _), (7, _), (8, _), (9, _)] rfl ?_
          refine go_goto 76 99 rfl (by decide) ?_
          cases h
          refine go_sub [0, 1, 2, 3, 4, 5, 6, 7, 8] rfl ?_
          have g9 := ih _ hc
          exact g9
        · replace h := ite_t c h
          refine go_aload_n 84 rfl 0 rfl rfl ?_
          refine go_getfield 11 _ 85 rfl (by first | decide | exact ok0 (by omega) | exact ok1 (by omega) | exact ok2 (by omega) | exact ok7 (by omega)) rfl fg_M_38 rfl ?_
          refine go_iload 86 rfl 8 rfl ?_
          refine go_aload_n 87 rfl 0 rfl rfl ?_
          refine go_getfield 11 _ 88 rfl (by first | decide | exact ok0 (by omega) | exact ok1 (by omega) | exact ok2 (by omega) | exact ok7 (by omega)) rfl fg_M_38 rfl ?_
          refine go_iload 89 rfl 8 rfl ?_
          obtain ⟨c, h⟩ := ck_inv h
          refine go_iaload 90 rfl (by first | decide | exact ok0 (by omega) | exact ok1 (by omega) | exact ok2 (by omega) | exact ok7 (by omega)) (inb_vp c) ?_
          refine go_iconst 1 91 rfl (by decide) ?_
          refine go_iload 92 rfl 7 rfl ?_
          refine go_ishl 93 rfl ?_
          refine go_ior 94 rfl ?_
          obtain ⟨c, h⟩ := ck_inv h
          refine go_iastore 95 rfl (by first | decide | exact ok0 (by omega) | exact ok1 (by omega) | exact ok2 (by omega) | exact ok7 (by omega)) (inb_vp c) ?_
          obtain ⟨_, c, h⟩ := bd_inv h
          cases c
          refine go_iconst 1 96 rfl (by decide) ?_
          refine go_istore 97 rfl (Nat.le_of_ble_eq_true rfl) [(0, _), (1, _), (2, _), (3, _), (4, _), (5, _), (6, _), (7, _), (8, _), (9, _)] rfl ?_
          refine go_iinc 1 98 rfl 8 rfl (by decide) (Nat.le_of_ble_eq_true rfl) [(0, _), (1, _), (2, _), (3, _), (4, _), (5, _), (6, _), (7, _), (8, _), (9, _)] rfl ?_
          refine go_goto 76 99 rfl (by decide) ?_
          cases h
          refine go_sub [0, 1, 2, 3, 4, 5, 6, 7, 8] rfl ?_
          have g9 := ih _ hc
          exact g9
set_option maxRecDepth 20000 in
theorem w_M_goOn_6 {l : Launch} {post : Option PV → Mm → Prop} (c1 : Int32) (c2 : Int32) (c3 : Int32) (c4 : Int32)  {r : Int32 × Int32 × Mm} (kk : Go l X_M_goOn post 173 [(0, vr 8 0), (1, vi c1), (2, vi c2), (3, vi c3), (4, vi c4), (5, vi r.1), (6, vi r.2.1)] [] r.2.2) : ∀ (n : Nat) (s : Int32 × Int32 × Mm), lpN (b_M_goOn_6 c1 c2 c3 c4) n s = some r → Go l X_M_goOn post 6 [(0, vr 8 0), (1, vi c1), (2, vi c2), (3, vi c3), (4, vi c4), (5, vi s.1), (6, vi s.2.1)] [] s.2.2 := by
  intro n
  induction n with
  | zero => intro s hc; exact (lpN_0 hc).elim
  | succ n ih =>
    intro s hc
    obtain ⟨q, h, hc⟩ := lpN_inv hc
    unfold b_M_goOn_6 at h
    refine go_iload 4 rfl 6 rfl ?_
    refine go_iconst 2 5 rfl (by decide) ?_
    refine go_icmp_ge 173 6 rfl (by decide) (fun c => ?_) (fun c => ?_)
    · replace h := ite_t c h
      cases h
      obtain rfl := lpq_r hc
      exact kk
    · replace h := ite_f c h
      refine go_iconst 0 7 rfl (by decide) ?_
      refine go_istore 8 rfl (Nat.le_of_ble_eq_true rfl) [(0, _), (1, _), (2, _), (3, _), (4, _), (5, _), (6, _), (7, _)] rfl ?_
      refine go_iconst 0 9 rfl (by decide) ?_
      refine go_istore 10 rfl (Nat.le_of_ble_eq_true rfl) [(0, _), (1, _), (2, _), (3, _), (4, _), (5, _), (6, _), (7, _), (8, _)] rfl ?_
      obtain ⟨r2, c, h⟩ := bd_inv h
      refine w_M_goOn_18 _ _ _ _ _ _ _ ?_ _ _ c
      refine go_iconst 0 43 rfl (by decide) ?_
      refine go_istore 44 rfl (Nat.le_of_ble_eq_true rfl) [(0, _), (1, _), (2, _), (3, _), (4, _), (5, _), (6, _), (7, _), (8, _)] rfl ?_
      obtain ⟨r4, c, h⟩ := bd_inv h
      refine w_M_goOn_76 _ _ _ _ _ _ ?_ _ _ c
      refine go_iinc 1 100 rfl 6 rfl (by decide) (Nat.le_of_ble_eq_true rfl) [(0, _), (1, _), (2, _), (3, _), (4, _), (5, _), (6, _), (7, _), (8, _)] rfl ?_
      refine go_goto 6 101 rfl (by decide) ?_
      cases h
      refine go_sub [0, 1, 2, 3, 4, 5, 6] rfl ?_
      have g9 := ih _ hc
      exact g9
set_option maxRecDepth 20000 in
theorem e_M_goOn {l : Launch} {a1 : Int32} {a2 : Int32} {a3 : Int32} {a4 : Int32} {M : Mm} {r : Bool × Mm}  (h : m_M_goOn a1 a2 a3 a4 M = some r) : Ev l X_M_goOn [vr 8 0, vi a1, vi a2, vi a3, vi a4] M (fun v M2 => v = (some (vi (bI r.1))) ∧ M2 = r.2) := by
  refine Ev.of mk_M_goOn [(0, vr 8 0), (1, vi a1), (2, vi a2), (3, vi a3), (4, vi a4)] (fun _ => rfl) (fun _ => (Nat.le_of_ble_eq_true rfl)) ?_
  unfold m_M_goOn at h
  refine go_iconst 0 0 rfl (by decide) ?_
  refine go_istore 1 rfl (Nat.le_of_ble_eq_true rfl) [(0, _), (1, _), (2, _), (3, _), (4, _), (5, _)] rfl ?_
  refine go_iconst 0 2 rfl (by decide) ?_
  refine go_istore 3 rfl (Nat.le_of_ble_eq_true rfl) [(0, _), (1, _), (2, _), (3, _), (4, _), (5, _), (6, _)] rfl ?_
  obtain ⟨r5, c, h⟩ := bd_inv h
  refine w_M_goOn_6 _ _ _ _ ?_ _ _ c
  refine go_iload 102 rfl 5 rfl ?_
  obtain ⟨c, h⟩ := ck_inv h
  cases h
  exact go_ireturn 103 rfl rfl (isb_n c) ⟨congrArg (fun q => some (vi q)) (isb_e c).symm, rfl⟩
def X_M_begin : MX := (⟨"OmegaDeskModel", "begin", "(II)V"⟩, prog_8_method_25_code, 6, none, { frames := 1, cells := 0, slots := 0, locals := 29 },
  [(0, .iconst 0, 1), (1, .istore_n 3, 2), (2, .iload_n 3, 3), (3, .iconst 4, 4), (4, .if_icmp .ge 16, 7), (7, .aload_n 0, 8), (8, .getfield 38, 11), (11, .iload_n 3, 12), (12, .iconst 0, 13), (13, .iastore, 14), (14, .iinc 3 1, 17), (17, .goto (-15), 20), (20, .aload_n 0, 21), (21, .getfield 38, 24), (24, .iconst 0, 25), (25, .iconst 1, 26), (26, .aload_n 0, 27), (27, .getfield 16, 30), (30, .iload_n 2, 31), (31, .iaload, 32), (32, .ifCond .le 7, 35), (35, .iconst 1, 36), (36, .goto 4, 39), (39, .iconst 0, 40), (40, .ishl, 41), (41, .iastore, 42), (42, .iconst 1, 43), (43, .istore_n 3, 44), (44, .iload_n 3, 45), (45, .ifCond .eq 75, 48), (48, .iconst 0, 49), (49, .istore_n 3, 50), (50, .iconst 0, 51), (51, .istore 4, 53), (53, .iload 4, 55), (55, .aload_n 0, 56), (56, .getfield 16, 59), (59, .iload_n 1, 60), (60, .iaload, 61), (61, .if_icmp .ge 56, 64), (64, .iconst 0, 65), (65, .istore 5, 67), (67, .iload 5, 69), (69, .bipush 8, 71), (71, .if_icmp .ge 40, 74), (74, .aload_n 0, 75), (75, .getfield 38, 78), (78, .iload 4, 80), (80, .iaload, 81), (81, .iload 5, 83), (83, .ishr, 84), (84, .iconst 1, 85), (85, .iand, 86), (86, .iconst 1, 87), (87, .if_icmp .ne 18, 90), (90, .aload_n 0, 91), (91, .iload_n 1, 92), (92, .iload_n 2, 93), (93, .iload 4, 95), (95, .iload 5, 97), (97, .invokevirtual 93, 100), (100, .ifCond .eq 5, 103), (103, .iconst 1, 104), (104, .istore_n 3, 105), (105, .iinc 5 1, 108), (108, .goto (-41), 111), (111, .iinc 4 1, 114), (114, .goto (-61), 117), (117, .goto (-73), 120), (120, .return_, 121)])
set_option maxRecDepth 20000 in
theorem mk_M_begin : Mk X_M_begin := ⟨by unfold TBk; decide +kernel, by decide +kernel, wb_652, ⟨by decide, by decide⟩, rfl, rfl, wb_6⟩
theorem cv_M_93 : CV "OmegaDeskModel" 93 X_M_goOn 4 8 := ⟨Or.inl wb_653, ⟨wb_655, ws_M_goOn⟩, by decide +kernel, F_M, 12, rfl⟩
def b_M_begin_2 (s : Int32 × Mm) : Option ((Int32 × Mm) ⊕ (Int32 × Mm)) :=
  if (4 : Int32) ≤ s.1 then
    some (Sum.inr (s.1, s.2))
  else
    ck (inb s.1 (lenI 22)) <|
    bd (some (uI s.2 (1, 22) s.1.toNatClampNeg (0 : Int32))) fun M1 =>
    some (Sum.inl ((s.1 + 1), M1))
def b_M_begin_67 (c1 : Int32) (c2 : Int32) (c4 : Int32) (s : Int32 × Int32 × Mm) : Option ((Int32 × Int32 × Mm) ⊕ (Int32 × Int32 × Mm)) :=
  if (8 : Int32) ≤ s.2.1 then
    some (Sum.inr (s.1, s.2.1, s.2.2))
  else
    ck (inb c4 (lenI 22)) <|
    if (((s.2.2.1 (1, 22) c4.toNatClampNeg) >>> (s.2.1 &&& 31)) &&& (1 : Int32)) = (1 : Int32) then
      bd (m_M_goOn c1 c2 c4 s.2.1 s.2.2) fun r4 =>
      if (bI r4.1) = 0 then
        some (Sum.inl (s.1, (s.2.1 + 1), r4.2))
      else
        some (Sum.inl ((1 : Int32), (s.2.1 + 1), r4.2))
    else
      some (Sum.inl (s.1, (s.2.1 + 1), s.2.2))
def b_M_begin_53 (c1 : Int32) (c2 : Int32) (s : Int32 × Int32 × Mm) : Option ((Int32 × Int32 × Mm) ⊕ (Int32 × Int32 × Mm)) :=
  ck (inb c1 (lenI 18)) <|
  if (s.2.2.1 (1, 18) c1.toNatClampNeg) ≤ s.2.1 then
    some (Sum.inr (s.1, s.2.1, s.2.2))
  else
    bd (lp (b_M_begin_67 c1 c2 s.2.1) (s.1, (0 : Int32), s.2.2)) fun r5 =>
    some (Sum.inl (r5.1, (s.2.1 + 1), r5.2.2))
def b_M_begin_44 (c1 : Int32) (c2 : Int32) (s : Int32 × Mm) : Option ((Int32 × Mm) ⊕ (Int32 × Mm)) :=
  if s.1 = 0 then
    some (Sum.inr (s.1, s.2))
  else
    bd (lp (b_M_begin_53 c1 c2) ((0 : Int32), (0 : Int32), s.2)) fun r6 =>
    some (Sum.inl (r6.1, r6.2.2))
def m_M_begin (a1 : Int32) (a2 : Int32) (M : Mm) : Option (Mm) :=
  bd (lp (b_M_begin_2) ((0 : Int32), M)) fun r2 =>
  ck (inb a2 (lenI 18)) <|
  if (r2.2.1 (1, 18) a2.toNatClampNeg) ≤ 0 then
    ck (inb (0 : Int32) (lenI 22)) <|
    bd (some (uI r2.2 (1, 22) (0 : Int32).toNatClampNeg ((1 : Int32) <<< ((0 : Int32) &&& 31)))) fun M3 =>
    bd (lp (b_M_begin_44 a1 a2) ((1 : Int32), M3)) fun r7 =>
    some r7.2
  else
    ck (inb (0 : Int32) (lenI 22)) <|
    bd (some (uI r2.2 (1, 22) (0 : Int32).toNatClampNeg ((1 : Int32) <<< ((1 : Int32) &&& 31)))) fun M8 =>
    bd (lp (b_M_begin_44 a1 a2) ((1 : Int32), M8)) fun r9 =>
    some r9.2
set_option maxRecDepth 20000 in
theorem w_M_begin_2 {l : Launch} {post : Option PV → Mm → Prop} (c1 : Int32) (c2 : Int32)  {r : Int32 × Mm} (kk : Go l X_M_begin post 20 [(0, vr 8 0), (1, vi c1), (2, vi c2), (3, vi r.1)] [] r.2) : ∀ (n : Nat) (s : Int32 × Mm), lpN (b_M_begin_2) n s = some r → Go l X_M_begin post 2 [(0, vr 8 0), (1, vi c1), (2, vi c2), (3, vi s.1)] [] s.2 := by
  intro n
  induction n with
  | zero => intro s hc; exact (lpN_0 hc).elim
  | succ n ih =>
    intro s hc
    obtain ⟨q, h, hc⟩ := lpN_inv hc
    unfold b_M_begin_2 at h
    refine go_iload_n 2 rfl 3 rfl rfl ?_
    refine go_iconst 4 3 rfl (by decide) ?_
    refine go_icmp_ge 20 4 rfl (by decide) (fun c => ?_) (fun c => ?_)
    · replace h := ite_t c h
      cases h
      obtain rfl := lpq_r hc
      exact kk
    · replace h := ite_f c h
      refine go_aload_n 5 rfl 0 rfl rfl ?_
      refine go_getfield 11 _ 6 rfl (by first | decide | exact ok0 (by omega) | exact ok1 (by omega) | exact ok2 (by omega) | exact ok7 (by omega)) rfl fg_M_38 rfl ?_
      refine go_iload_n 7 rfl 3 rfl rfl ?_
      refine go_iconst 0 8 rfl (by decide) ?_
      obtain ⟨c, h⟩ := ck_inv h
      refine go_iastore 9 rfl (by first | decide | exact ok0 (by omega) | exact ok1 (by omega) | exact ok2 (by omega) | exact ok7 (by omega)) (inb_vp c) ?_
      obtain ⟨_, c, h⟩ := bd_inv h
      cases c
      refine go_iinc 1 10 rfl 3 rfl (by decide) (Nat.le_of_ble_eq_true rfl) [(0, _), (1, _), (2, _), (3, _)] rfl ?_
      refine go_goto 2 11 rfl (by decide) ?_
      cases h
      have g9 := ih _ hc
      exact g9
set_option maxRecDepth 20000 in
theorem w_M_begin_67 {l : Launch} {post : Option PV → Mm → Prop} (c1 : Int32) (c2 : Int32) (c4 : Int32)  {r : Int32 × Int32 × Mm} (kk : Go l X_M_begin post 111 [(0, vr 8 0), (1, vi c1), (2, vi c2), (3, vi r.1), (4, vi c4), (5, vi r.2.1)] [] r.2.2) : ∀ (n : Nat) (s : Int32 × Int32 × Mm), lpN (b_M_begin_67 c1 c2 c4) n s = some r → Go l X_M_begin post 67 [(0, vr 8 0), (1, vi c1), (2, vi c2), (3, vi s.1), (4, vi c4), (5, vi s.2.1)] [] s.2.2 := by
  intro n
  induction n with
  | zero => intro s hc; exact (lpN_0 hc).elim
  | succ n ih =>
    intro s hc
    obtain ⟨q, h, hc⟩ := lpN_inv hc
    unfold b_M_begin_67 at h
    refine go_iload 42 rfl 5 rfl ?_
    refine go_bipush 8 43 rfl (by decide) ?_
    refine go_icmp_ge 111 44 rfl (by decide) (fun c => ?_) (fun c => ?_)
    · replace h := ite_t c h
      cases h
      obtain rfl := lpq_r hc
      exact kk
    · replace h := ite_f c h
      refine go_aload_n 45 rfl 0 rfl rfl ?_
      refine go_getfield 11 _ 46 rfl (by first | decide | exact ok0 (by omega) | exact ok1 (by omega) | exact ok2 (by omega) | exact ok7 (by omega)) rfl fg_M_38 rfl ?_
      refine go_iload 47 rfl 4 rfl ?_
      obtain ⟨c, h⟩ := ck_inv h
      refine go_iaload 48 rfl (by first | decide | exact ok0 (by omega) | exact ok1 (by omega) | exact ok2 (by omega) | exact ok7 (by omega)) (inb_vp c) ?_
      refine go_iload 49 rfl 5 rfl ?_
      refine go_ishr 50 rfl ?_
      refine go_iconst 1 51 rfl (by decide) ?_
      refine go_iand 52 rfl ?_
      refine go_iconst 1 53 rfl (by decide) ?_
      refine go_icmp_ne 105 54 rfl (by decide) (fun c => ?_) (fun c => ?_)
      · replace h := ite_f c h
        refine go_iinc 1 64 rfl 5 rfl (by decide) (Nat.le_of_ble_eq_true rfl) [(0, _), (1, _), (2, _), (3, _), (4, _), (5, _)] rfl ?_
        refine go_goto 67 65 rfl (by decide) ?_
        cases h
        have g9 := ih _ hc
        exact g9
      · replace h := ite_t c h
        refine go_aload_n 55 rfl 0 rfl rfl ?_
        refine go_iload_n 56 rfl 1 rfl rfl ?_
        refine go_iload_n 57 rfl 2 rfl rfl ?_
        refine go_iload 58 rfl 4 rfl ?_
        refine go_iload 59 rfl 5 rfl ?_
        obtain ⟨r4, c, h⟩ := bd_inv h
        refine go_callV1 _ 60 rfl (e_M_goOn c) mk_M_goOn (by first | decide | exact ok0 (by omega) | exact ok1 (by omega) | exact ok2 (by omega) | exact ok7 (by omega)) rfl cv_M_93 rfl ⟨(Nat.le_of_ble_eq_true rfl), (Nat.le_of_ble_eq_true rfl)⟩ (Nat.le_of_ble_eq_true rfl) rfl ?_
        refine go_if_eq 105 61 rfl (by decide) (fun c => ?_) (fun c => ?_)
        · replace h := ite_t c h
          refine go_iinc 1 64 rfl 5 rfl (by decide) (Nat.le_of_ble_eq_true rfl) [(0, _), (1, _), (2, _), (3, _), (4, _), (5, _)] rfl ?_
          refine go_goto 67 65 rfl (by decide) ?_
          cases h
          have g9 := ih _ hc
          exact g9
        · replace h := ite_f c h
          refine go_iconst 1 62 rfl (by decide) ?_
          refine go_istore_n 63 rfl rfl (Nat.le_of_ble_eq_true rfl) [(0, _), (1, _), (2, _), (3, _), (4, _), (5, _)] rfl ?_
          refine go_iinc 1 64 rfl 5 rfl (by decide) (Nat.le_of_ble_eq_true rfl) [(0, _), (1, _), (2, _), (3, _), (4, _), (5, _)] rfl ?_
          refine go_goto 67 65 rfl (by decide) ?_
          cases h
          have g9 := ih _ hc
          exact g9
set_option maxRecDepth 20000 in
theorem w_M_begin_53 {l : Launch} {post : Option PV → Mm → Prop} (c1 : Int32) (c2 : Int32)  {r : Int32 × Int32 × Mm} (kk : Go l X_M_begin post 117 [(0, vr 8 0), (1, vi c1), (2, vi c2), (3, vi r.1), (4, vi r.2.1)] [] r.2.2) : ∀ (n : Nat) (s : Int32 × Int32 × Mm), lpN (b_M_begin_53 c1 c2) n s = some r → Go l X_M_begin post 53 [(0, vr 8 0), (1, vi c1), (2, vi c2), (3, vi s.1), (4, vi s.2.1)] [] s.2.2 := by
  intro n
  induction n with
  | zero => intro s hc; exact (lpN_0 hc).elim
  | succ n ih =>
    intro s hc
    obtain ⟨q, h, hc⟩ := lpN_inv hc
    unfold b_M_begin_53 at h
    refine go_iload 34 rfl 4 rfl ?_
    refine go_aload_n 35 rfl 0 rfl rfl ?_
    refine go_getfield 3 _ 36 rfl (by first | decide | exact ok0 (by omega) | exact ok1 (by omega) | exact ok2 (by omega) | exact ok7 (by omega)) rfl fg_M_16 rfl ?_
    refine go_iload_n 37 rfl 1 rfl rfl ?_
    obtain ⟨c, h⟩ := ck_inv h
    refine go_iaload 38 rfl (by first | decide | exact ok0 (by omega) | exact ok1 (by omega) | exact ok2 (by omega) | exact ok7 (by omega)) (inb_vp c) ?_
    refine go_icmp_ge 117 39 rfl (by decide) (fun c => ?_) (fun c => ?_)
    · replace h := ite_t c h
      cases h
      obtain rfl := lpq_r hc
      exact kk
    · replace h := ite_f c h
      refine go_iconst 0 40 rfl (by decide) ?_
      refine go_istore 41 rfl (Nat.le_of_ble_eq_true rfl) [(0, _), (1, _), (2, _), (3, _), (4, _), (5, _)] rfl ?_
      obtain ⟨r5, c, h⟩ := bd_inv h
      refine w_M_begin_67 _ _ _ ?_ _ _ c
      refine go_iinc 1 66 rfl 4 rfl (by decide) (Nat.le_of_ble_eq_true rfl) [(0, _), (1, _), (2, _), (3, _), (4, _), (5, _)] rfl ?_
      refine go_goto 53 67 rfl (by decide) ?_
      cases h
      refine go_sub [0, 1, 2, 3, 4] rfl ?_
      have g9 := ih _ hc
      exact g9
set_option maxRecDepth 20000 in
theorem w_M_begin_44 {l : Launch} {post : Option PV → Mm → Prop} (c1 : Int32) (c2 : Int32)  {r : Int32 × Mm} (kk : Go l X_M_begin post 120 [(0, vr 8 0), (1, vi c1), (2, vi c2), (3, vi r.1)] [] r.2) : ∀ (n : Nat) (s : Int32 × Mm), lpN (b_M_begin_44 c1 c2) n s = some r → Go l X_M_begin post 44 [(0, vr 8 0), (1, vi c1), (2, vi c2), (3, vi s.1)] [] s.2 := by
  intro n
  induction n with
  | zero => intro s hc; exact (lpN_0 hc).elim
  | succ n ih =>
    intro s hc
    obtain ⟨q, h, hc⟩ := lpN_inv hc
    unfold b_M_begin_44 at h
    refine go_iload_n 28 rfl 3 rfl rfl ?_
    refine go_if_eq 120 29 rfl (by decide) (fun c => ?_) (fun c => ?_)
    · replace h := ite_t c h
      cases h
      obtain rfl := lpq_r hc
      exact kk
    · replace h := ite_f c h
      refine go_iconst 0 30 rfl (by decide) ?_
      refine go_istore_n 31 rfl rfl (Nat.le_of_ble_eq_true rfl) [(0, _), (1, _), (2, _), (3, _)] rfl ?_
      refine go_iconst 0 32 rfl (by decide) ?_
      refine go_istore 33 rfl (Nat.le_of_ble_eq_true rfl) [(0, _), (1, _), (2, _), (3, _), (4, _)] rfl ?_
      obtain ⟨r6, c, h⟩ := bd_inv h
      refine w_M_begin_53 _ _ ?_ _ _ c
      refine go_goto 44 68 rfl (by decide) ?_
      cases h
      refine go_sub [0, 1, 2, 3] rfl ?_
      have g9 := ih _ hc
      exact g9
set_option maxRecDepth 20000 in
theorem e_M_begin {l : Launch} {a1 : Int32} {a2 : Int32} {M : Mm} {r : Mm}  (h : m_M_begin a1 a2 M = some r) : Ev l X_M_begin [vr 8 0, vi a1, vi a2] M (fun v M2 => v = none ∧ M2 = r) := by
  refine Ev.of mk_M_begin [(0, vr 8 0), (1, vi a1), (2, vi a2)] (fun _ => rfl) (fun _ => (Nat.le_of_ble_eq_true rfl)) ?_
  unfold m_M_begin at h
  refine go_iconst 0 0 rfl (by decide) ?_
  refine go_istore_n 1 rfl rfl (Nat.le_of_ble_eq_true rfl) [(0, _), (1, _), (2, _), (3, _)] rfl ?_
  obtain ⟨r2, c, h⟩ := bd_inv h
  refine w_M_begin_2 _ _ ?_ _ _ c
  refine go_aload_n 12 rfl 0 rfl rfl ?_
  refine go_getfield 11 _ 13 rfl (by first | decide | exact ok0 (by omega) | exact ok1 (by omega) | exact ok2 (by omega) | exact ok7 (by omega)) rfl fg_M_38 rfl ?_
  refine go_iconst 0 14 rfl (by decide) ?_
  refine go_iconst 1 15 rfl (by decide) ?_
  refine go_aload_n 16 rfl 0 rfl rfl ?_
  refine go_getfield 3 _ 17 rfl (by first | decide | exact ok0 (by omega) | exact ok1 (by omega) | exact ok2 (by omega) | exact ok7 (by omega)) rfl fg_M_16 rfl ?_
  refine go_iload_n 18 rfl 2 rfl rfl ?_
  obtain ⟨c, h⟩ := ck_inv h
  refine go_iaload 19 rfl (by first | decide | exact ok0 (by omega) | exact ok1 (by omega) | exact ok2 (by omega) | exact ok7 (by omega)) (inb_vp c) ?_
  refine go_if_le 39 20 rfl (by decide) (fun c => ?_) (fun c => ?_)
  · replace h := ite_t c h
    refine go_iconst 0 23 rfl (by decide) ?_
    refine go_ishl 24 rfl ?_
    obtain ⟨c, h⟩ := ck_inv h
    refine go_iastore 25 rfl (by first | decide | exact ok0 (by omega) | exact ok1 (by omega) | exact ok2 (by omega) | exact ok7 (by omega)) (inb_vp c) ?_
    obtain ⟨_, c, h⟩ := bd_inv h
    cases c
    refine go_iconst 1 26 rfl (by decide) ?_
    refine go_istore_n 27 rfl rfl (Nat.le_of_ble_eq_true rfl) [(0, _), (1, _), (2, _), (3, _)] rfl ?_
    obtain ⟨r7, c, h⟩ := bd_inv h
    refine w_M_begin_44 _ _ ?_ _ _ c
    cases h
    exact go_return 69 rfl rfl ⟨rfl, rfl⟩
  · replace h := ite_f c h
    refine go_iconst 1 21 rfl (by decide) ?_
    refine go_goto 40 22 rfl (by decide) ?_
    refine go_ishl 24 rfl ?_
    obtain ⟨c, h⟩ := ck_inv h
    refine go_iastore 25 rfl (by first | decide | exact ok0 (by omega) | exact ok1 (by omega) | exact ok2 (by omega) | exact ok7 (by omega)) (inb_vp c) ?_
    obtain ⟨_, c, h⟩ := bd_inv h
    cases c
    refine go_iconst 1 26 rfl (by decide) ?_
    refine go_istore_n 27 rfl rfl (Nat.le_of_ble_eq_true rfl) [(0, _), (1, _), (2, _), (3, _)] rfl ?_
    obtain ⟨r9, c, h⟩ := bd_inv h
    refine w_M_begin_44 _ _ ?_ _ _ c
    cases h
    exact go_return 69 rfl rfl ⟨rfl, rfl⟩
def X_M_spread : MX := (⟨"OmegaDeskModel", "spread", "(I)V"⟩, prog_8_method_27_code, 4, none, { frames := 0, cells := 0, slots := 0, locals := 0 },
  [(0, .iload_n 1, 1), (1, .istore_n 2, 2), (2, .iconst 0, 3), (3, .istore_n 3, 4), (4, .iload_n 3, 5), (5, .bipush 9, 7), (7, .if_icmp .ge 22, 10), (10, .aload_n 0, 11), (11, .getfield 32, 14), (14, .iload_n 3, 15), (15, .iload_n 2, 16), (16, .iconst 3, 17), (17, .irem, 18), (18, .iastore, 19), (19, .iload_n 2, 20), (20, .iconst 3, 21), (21, .idiv, 22), (22, .istore_n 2, 23), (23, .iinc 3 1, 26), (26, .goto (-22), 29), (29, .return_, 30)])
set_option maxRecDepth 20000 in
theorem mk_M_spread : Mk X_M_spread := ⟨by unfold TBk; decide +kernel, by decide +kernel, wb_674, ⟨by decide, by decide⟩, rfl, rfl, wb_6⟩
theorem fg_M_32 : FG "OmegaDeskModel" 32 8 9 := ⟨R_M, F_M, 12, rfl, by decide, uw_M, Or.inl wb_534⟩
def b_M_spread_4 (s : Int32 × Int32 × Mm) : Option ((Int32 × Int32 × Mm) ⊕ (Int32 × Int32 × Mm)) :=
  if (9 : Int32) ≤ s.2.1 then
    some (Sum.inr (s.1, s.2.1, s.2.2))
  else
    ck (inb s.2.1 (lenI 20)) <|
    bd (some (uI s.2.2 (1, 20) s.2.1.toNatClampNeg (s.1 - s.1 / (3 : Int32) * (3 : Int32)))) fun M1 =>
    some (Sum.inl ((s.1 / (3 : Int32)), (s.2.1 + 1), M1))
def m_M_spread (a1 : Int32) (M : Mm) : Option (Mm) :=
  bd (lp (b_M_spread_4) (a1, (0 : Int32), M)) fun r2 =>
  some r2.2.2
set_option maxRecDepth 20000 in
theorem w_M_spread_4 {l : Launch} {post : Option PV → Mm → Prop} (c1 : Int32)  {r : Int32 × Int32 × Mm} (kk : Go l X_M_spread post 29 [(0, vr 8 0), (1, vi c1), (2, vi r.1), (3, vi r.2.1)] [] r.2.2) : ∀ (n : Nat) (s : Int32 × Int32 × Mm), lpN (b_M_spread_4) n s = some r → Go l X_M_spread post 4 [(0, vr 8 0), (1, vi c1), (2, vi s.1), (3, vi s.2.1)] [] s.2.2 := by
  intro n
  induction n with
  | zero => intro s hc; exact (lpN_0 hc).elim
  | succ n ih =>
    intro s hc
    obtain ⟨q, h, hc⟩ := lpN_inv hc
    unfold b_M_spread_4 at h
    refine go_iload_n 4 rfl 3 rfl rfl ?_
    refine go_bipush 9 5 rfl (by decide) ?_
    refine go_icmp_ge 29 6 rfl (by decide) (fun c => ?_) (fun c => ?_)
    · replace h := ite_t c h
      cases h
      obtain rfl := lpq_r hc
      exact kk
    · replace h := ite_f c h
      refine go_aload_n 7 rfl 0 rfl rfl ?_
      refine go_getfield 9 _ 8 rfl (by first | decide | exact ok0 (by omega) | exact ok1 (by omega) | exact ok2 (by omega) | exact ok7 (by omega)) rfl fg_M_32 rfl ?_
      refine go_iload_n 9 rfl 3 rfl rfl ?_
      refine go_iload_n 10 rfl 2 rfl rfl ?_
      refine go_iconst 3 11 rfl (by decide) ?_
      refine go_irem 12 rfl (by decide) ?_
      obtain ⟨c, h⟩ := ck_inv h
      refine go_iastore 13 rfl (by first | decide | exact ok0 (by omega) | exact ok1 (by omega) | exact ok2 (by omega) | exact ok7 (by omega)) (inb_vp c) ?_
      obtain ⟨_, c, h⟩ := bd_inv h
      cases c
      refine go_iload_n 14 rfl 2 rfl rfl ?_
      refine go_iconst 3 15 rfl (by decide) ?_
      refine go_idiv 16 rfl (by decide) ?_
      refine go_istore_n 17 rfl rfl (Nat.le_of_ble_eq_true rfl) [(0, _), (1, _), (2, _), (3, _)] rfl ?_
      refine go_iinc 1 18 rfl 3 rfl (by decide) (Nat.le_of_ble_eq_true rfl) [(0, _), (1, _), (2, _), (3, _)] rfl ?_
      refine go_goto 4 19 rfl (by decide) ?_
      cases h
      have g9 := ih _ hc
      exact g9
set_option maxRecDepth 20000 in
theorem e_M_spread {l : Launch} {a1 : Int32} {M : Mm} {r : Mm}  (h : m_M_spread a1 M = some r) : Ev l X_M_spread [vr 8 0, vi a1] M (fun v M2 => v = none ∧ M2 = r) := by
  refine Ev.of mk_M_spread [(0, vr 8 0), (1, vi a1)] (fun _ => rfl) (fun _ => (Nat.le_of_ble_eq_true rfl)) ?_
  unfold m_M_spread at h
  refine go_iload_n 0 rfl 1 rfl rfl ?_
  refine go_istore_n 1 rfl rfl (Nat.le_of_ble_eq_true rfl) [(0, _), (1, _), (2, _)] rfl ?_
  refine go_iconst 0 2 rfl (by decide) ?_
  refine go_istore_n 3 rfl rfl (Nat.le_of_ble_eq_true rfl) [(0, _), (1, _), (2, _), (3, _)] rfl ?_
  obtain ⟨r2, c, h⟩ := bd_inv h
  refine w_M_spread_4 _ ?_ _ _ c
  cases h
  exact go_return 20 rfl rfl ⟨rfl, rfl⟩
def X_M_longer : MX := (⟨"OmegaDeskModel", "longer", "(II)I"⟩, prog_8_method_28_code, 9, some .int, { frames := 0, cells := 0, slots := 0, locals := 0 },
  [(0, .iconst 0, 1), (1, .istore_n 3, 2), (2, .iload_n 3, 3), (3, .bipush 9, 5), (5, .if_icmp .ge 16, 8), (8, .aload_n 0, 9), (9, .getfield 35, 12), (12, .iload_n 3, 13), (13, .iconst 0, 14), (14, .iastore, 15), (15, .iinc 3 1, 18), (18, .goto (-16), 21), (21, .iconst 0, 22), (22, .istore_n 3, 23), (23, .iload_n 3, 24), (24, .aload_n 0, 25), (25, .getfield 16, 28), (28, .iload_n 1, 29), (29, .iaload, 30), (30, .if_icmp .ge 175, 33), (33, .iconst 0, 34), (34, .istore 4, 36), (36, .iload 4, 38), (38, .aload_n 0, 39), (39, .getfield 16, 42), (42, .iload_n 1, 43), (43, .iaload, 44), (44, .if_icmp .ge 155, 47), (47, .aload_n 0, 48), (48, .getfield 32, 51), (51, .iconst 3, 52), (52, .iload_n 3, 53), (53, .imul, 54), (54, .iload 4, 56), (56, .iadd, 57), (57, .iaload, 58), (58, .istore 5, 60), (60, .iconst 0, 61), (61, .istore 6, 63), (63, .iload 6, 65), (65, .aload_n 0, 66), (66, .getfield 16, 69), (69, .iload_n 1, 70), (70, .iaload, 71), (71, .if_icmp .ge 122, 74), (74, .iload 5, 76), (76, .ifCond .le 117, 79), (79, .aload_n 0, 80), (80, .getfield 7, 83), (83, .bipush 8, 85), (85, .iload_n 1, 86), (86, .imul, 87), (87, .iconst 4, 88), (88, .iload_n 2, 89), (89, .imul, 90), (90, .iadd, 91), (91, .iload 4, 93), (93, .iadd, 94), (94, .iaload, 95), (95, .iload 6, 97), (97, .ishr, 98), (98, .iconst 1, 99), (99, .iand, 100), (100, .iconst 1, 101), (101, .if_icmp .ne 7, 104), (104, .iconst 1, 105), (105, .goto 4, 108), (108, .iconst 0, 109), (109, .istore 7, 111), (111, .iload 5, 113), (113, .iconst 2, 114), (114, .if_icmp .eq 18, 117), (117, .aload_n 0, 118), (118, .getfield 13, 121), (121, .iload_n 1, 122), (122, .iaload, 123), (123, .iload 6, 125), (125, .ishr, 126), (126, .iconst 1, 127), (127, .iand, 128), (128, .iconst 1, 129), (129, .if_icmp .ne 7, 132), (132, .iconst 2, 133), (133, .goto 4, 136), (136, .iconst 1, 137), (137, .istore 8, 139), (139, .aload_n 0, 140), (140, .getfield 35, 143), (143, .iconst 3, 144), (144, .iload_n 3, 145), (145, .imul, 146), (146, .iload 6, 148), (148, .iadd, 149), (149, .iload 7, 151), (151, .ifCond .eq 24, 154), (154, .iload 8, 156), (156, .aload_n 0, 157), (157, .getfield 35, 160), (160, .iconst 3, 161), (161, .iload_n 3, 162), (162, .imul, 163), (163, .iload 6, 165), (165, .iadd, 166), (166, .iaload, 167), (167, .if_icmp .le 8, 170), (170, .iload 8, 172), (172, .goto 14, 175), (175, .aload_n 0, 176), (176, .getfield 35, 179), (179, .iconst 3, 180), (180, .iload_n 3, 181), (181, .imul, 182), (182, .iload 6, 184), (184, .iadd, 185), (185, .iaload, 186), (186, .iastore, 187), (187, .iinc 6 1, 190), (190, .goto (-127), 193), (193, .iinc 4 1, 196), (196, .goto (-160), 199), (199, .iinc 3 1, 202), (202, .goto (-179), 205), (205, .iconst 0, 206), (206, .istore_n 3, 207), (207, .bipush 8, 209), (209, .istore 4, 211), (211, .iload 4, 213), (213, .ifCond .lt 21, 216), (216, .iconst 3, 217), (217, .iload_n 3, 218), (218, .imul, 219), (219, .aload_n 0, 220), (220, .getfield 35, 223), (223, .iload 4, 225), (225, .iaload, 226), (226, .iadd, 227), (227, .istore_n 3, 228), (228, .iinc 4 (-1), 231), (231, .goto (-20), 234), (234, .iload_n 3, 235), (235, .ireturn, 236)])
set_option maxRecDepth 20000 in
theorem mk_M_longer : Mk X_M_longer := ⟨by unfold TBk; decide +kernel, by decide +kernel, wb_678, ⟨by decide, by decide⟩, rfl, rfl, wb_6⟩
theorem fg_M_35 : FG "OmegaDeskModel" 35 8 10 := ⟨R_M, F_M, 12, rfl, by decide, uw_M, Or.inl wb_535⟩
def b_M_longer_2 (s : Int32 × Mm) : Option ((Int32 × Mm) ⊕ (Int32 × Mm)) :=
  if (9 : Int32) ≤ s.1 then
    some (Sum.inr (s.1, s.2))
  else
    ck (inb s.1 (lenI 21)) <|
    bd (some (uI s.2 (1, 21) s.1.toNatClampNeg (0 : Int32))) fun M1 =>
    some (Sum.inl ((s.1 + 1), M1))
def b_M_longer_63 (c1 : Int32) (c2 : Int32) (c3 : Int32) (c4 : Int32) (c5 : Int32) (s : Int32 × Mm) : Option ((Int32 × Mm) ⊕ (Int32 × Mm)) :=
  ck (inb c1 (lenI 18)) <|
  if (s.2.1 (1, 18) c1.toNatClampNeg) ≤ s.1 then
    some (Sum.inr (s.1, s.2))
  else
    if c5 ≤ 0 then
      some (Sum.inr (s.1, s.2))
    else
      ck (inb ((((8 : Int32) * c1) + ((4 : Int32) * c2)) + c4) (lenI 16)) <|
      if (((s.2.1 (1, 16) ((((8 : Int32) * c1) + ((4 : Int32) * c2)) + c4).toNatClampNeg) >>> (s.1 &&& 31)) &&& (1 : Int32)) = (1 : Int32) then
        if c5 = (2 : Int32) then
          ck (inb (((3 : Int32) * c3) + s.1) (lenI 21)) <|
          if (2 : Int32) ≤ (s.2.1 (1, 21) (((3 : Int32) * c3) + s.1).toNatClampNeg) then
            ck (inb (((3 : Int32) * c3) + s.1) (lenI 21)) <|
            ck (inb (((3 : Int32) * c3) + s.1) (lenI 21)) <|
            bd (some (uI s.2 (1, 21) (((3 : Int32) * c3) + s.1).toNatClampNeg (s.2.1 (1, 21) (((3 : Int32) * c3) + s.1).toNatClampNeg))) fun M7 =>
            some (Sum.inl ((s.1 + 1), M7))
          else
            ck (inb (((3 : Int32) * c3) + s.1) (lenI 21)) <|
            bd (some (uI s.2 (1, 21) (((3 : Int32) * c3) + s.1).toNatClampNeg (2 : Int32))) fun M8 =>
            some (Sum.inl ((s.1 + 1), M8))
        else
          ck (inb c1 (lenI 17)) <|
          if (((s.2.1 (1, 17) c1.toNatClampNeg) >>> (s.1 &&& 31)) &&& (1 : Int32)) = (1 : Int32) then
            ck (inb (((3 : Int32) * c3) + s.1) (lenI 21)) <|
            if (2 : Int32) ≤ (s.2.1 (1, 21) (((3 : Int32) * c3) + s.1).toNatClampNeg) then
              ck (inb (((3 : Int32) * c3) + s.1) (lenI 21)) <|
              ck (inb (((3 : Int32) * c3) + s.1) (lenI 21)) <|
              bd (some (uI s.2 (1, 21) (((3 : Int32) * c3) + s.1).toNatClampNeg (s.2.1 (1, 21) (((3 : Int32) * c3) + s.1).toNatClampNeg))) fun M11 =>
              some (Sum.inl ((s.1 + 1), M11))
            else
              ck (inb (((3 : Int32) * c3) + s.1) (lenI 21)) <|
              bd (some (uI s.2 (1, 21) (((3 : Int32) * c3) + s.1).toNatClampNeg (2 : Int32))) fun M12 =>
              some (Sum.inl ((s.1 + 1), M12))
          else
            ck (inb (((3 : Int32) * c3) + s.1) (lenI 21)) <|
            if (1 : Int32) ≤ (s.2.1 (1, 21) (((3 : Int32) * c3) + s.1).toNatClampNeg) then
              ck (inb (((3 : Int32) * c3) + s.1) (lenI 21)) <|
              ck (inb (((3 : Int32) * c3) + s.1) (lenI 21)) <|
              bd (some (uI s.2 (1, 21) (((3 : Int32) * c3) + s.1).toNatClampNeg (s.2.1 (1, 21) (((3 : Int32) * c3) + s.1).toNatClampNeg))) fun M9 =>
              some (Sum.inl ((s.1 + 1), M9))
            else
              ck (inb (((3 : Int32) * c3) + s.1) (lenI 21)) <|
              bd (some (uI s.2 (1, 21) (((3 : Int32) * c3) + s.1).toNatClampNeg (1 : Int32))) fun M10 =>
              some (Sum.inl ((s.1 + 1), M10))
      else
        if c5 = (2 : Int32) then
          ck (inb (((3 : Int32) * c3) + s.1) (lenI 21)) <|
          ck (inb (((3 : Int32) * c3) + s.1) (lenI 21)) <|
          bd (some (uI s.2 (1, 21) (((3 : Int32) * c3) + s.1).toNatClampNeg (s.2.1 (1, 21) (((3 : Int32) * c3) + s.1).toNatClampNeg))) fun M4 =>
          some (Sum.inl ((s.1 + 1), M4))
        else
          ck (inb c1 (lenI 17)) <|
          if (((s.2.1 (1, 17) c1.toNatClampNeg) >>> (s.1 &&& 31)) &&& (1 : Int32)) = (1 : Int32) then
            ck (inb (((3 : Int32) * c3) + s.1) (lenI 21)) <|
            ck (inb (((3 : Int32) * c3) + s.1) (lenI 21)) <|
            bd (some (uI s.2 (1, 21) (((3 : Int32) * c3) + s.1).toNatClampNeg (s.2.1 (1, 21) (((3 : Int32) * c3) + s.1).toNatClampNeg))) fun M6 =>
            some (Sum.inl ((s.1 + 1), M6))
          else
            ck (inb (((3 : Int32) * c3) + s.1) (lenI 21)) <|
            ck (inb (((3 : Int32) * c3) + s.1) (lenI 21)) <|
            bd (some (uI s.2 (1, 21) (((3 : Int32) * c3) + s.1).toNatClampNeg (s.2.1 (1, 21) (((3 : Int32) * c3) + s.1).toNatClampNeg))) fun M5 =>
            some (Sum.inl ((s.1 + 1), M5))
def b_M_longer_36 (c1 : Int32) (c2 : Int32) (c3 : Int32) (s : Int32 × Mm) : Option ((Int32 × Mm) ⊕ (Int32 × Mm)) :=
  ck (inb c1 (lenI 18)) <|
  if (s.2.1 (1, 18) c1.toNatClampNeg) ≤ s.1 then
    some (Sum.inr (s.1, s.2))
  else
    ck (inb (((3 : Int32) * c3) + s.1) (lenI 20)) <|
    bd (some (s.2.1 (1, 20) (((3 : Int32) * c3) + s.1).toNatClampNeg)) fun x3 =>
    bd (lp (b_M_longer_63 c1 c2 c3 s.1 x3) ((0 : Int32), s.2)) fun r13 =>
    some (Sum.inl ((s.1 + 1), r13.2))
def b_M_longer_23 (c1 : Int32) (c2 : Int32) (s : Int32 × Mm) : Option ((Int32 × Mm) ⊕ (Int32 × Mm)) :=
  ck (inb c1 (lenI 18)) <|
  if (s.2.1 (1, 18) c1.toNatClampNeg) ≤ s.1 then
    some (Sum.inr (s.1, s.2))
  else
    bd (lp (b_M_longer_36 c1 c2 s.1) ((0 : Int32), s.2)) fun r14 =>
    some (Sum.inl ((s.1 + 1), r14.2))
def b_M_longer_211 (M : Mm) (s : Int32 × Int32) : Option ((Int32 × Int32) ⊕ (Int32 × Int32)) :=
  if s.2 < 0 then
    some (Sum.inr (s.1, s.2))
  else
    ck (inb s.2 (lenI 21)) <|
    bd (some (((3 : Int32) * s.1) + (M.1 (1, 21) s.2.toNatClampNeg))) fun x16 =>
    some (Sum.inl (x16, (s.2 + (-1))))
def m_M_longer (a1 : Int32) (a2 : Int32) (M : Mm) : Option (Int32 × Mm) :=
  bd (lp (b_M_longer_2) ((0 : Int32), M)) fun r2 =>
  bd (lp (b_M_longer_23 a1 a2) ((0 : Int32), r2.2)) fun r15 =>
  bd (lp (b_M_longer_211 r15.2) ((0 : Int32), (8 : Int32))) fun r17 =>
  some (r17.1, r15.2)
set_option maxRecDepth 20000 in
theorem w_M_longer_2 {l : Launch} {post : Option PV → Mm → Prop} (c1 : Int32) (c2 : Int32)  {r : Int32 × Mm} (kk : Go l X_M_longer post 21 [(0, vr 8 0), (1, vi c1), (2, vi c2), (3, vi r.1)] [] r.2) : ∀ (n : Nat) (s : Int32 × Mm), lpN (b_M_longer_2) n s = some r → Go l X_M_longer post 2 [(0, vr 8 0), (1, vi c1), (2, vi c2), (3, vi s.1)] [] s.2 := by
  intro n
  induction n with
  | zero => intro s hc; exact (lpN_0 hc).elim
  | succ n ih =>
    intro s hc
    obtain ⟨q, h, hc⟩ := lpN_inv hc
    unfold b_M_longer_2 at h
    refine go_iload_n 2 rfl 3 rfl rfl ?_
    refine go_bipush 9 3 rfl (by decide) ?_
    refine go_icmp_ge 21 4 rfl (by decide) (fun c => ?_) (fun c => ?_)
    · replace h := ite_t c h
      cases h
      obtain rfl := lpq_r hc
      exact kk
    · replace h := ite_f c h
      refine go_aload_n 5 rfl 0 rfl rfl ?_
      refine go_getfield 10 _ 6 rfl (by first | decide | exact ok0 (by omega) | exact ok1 (by omega) | exact ok2 (by omega) | exact ok7 (by omega)) rfl fg_M_35 rfl ?_
      refine go_iload_n 7 rfl 3 rfl rfl ?_
      refine go_iconst 0 8 rfl (by decide) ?_
      obtain ⟨c, h⟩ := ck_inv h
      refine go_iastore 9 rfl (by first | decide | exact ok0 (by omega) | exact ok1 (by omega) | exact ok2 (by omega) | exact ok7 (by omega)) (inb_vp c) ?_
      obtain ⟨_, c, h⟩ := bd_inv h
      cases c
      refine go_iinc 1 10 rfl 3 rfl (by decide) (Nat.le_of_ble_eq_true rfl) [(0, _), (1, _), (2, _), (3, _)] rfl ?_
      refine go_goto 2 11 rfl (by decide) ?_
      cases h
      have g9 := ih _ hc
      exact g9
set_option maxRecDepth 20000 in
theorem w_M_longer_63 {l : Launch} {post : Option PV → Mm → Prop} (c1 : Int32) (c2 : Int32) (c3 : Int32) (c4 : Int32) (c5 : Int32)  {r : Int32 × Mm} (kk : Go l X_M_longer post 193 [(0, vr 8 0), (1, vi c1), (2, vi c2), (3, vi c3), (4, vi c4), (5, vi c5), (6, vi r.1)] [] r.2) : ∀ (n : Nat) (s : Int32 × Mm), lpN (b_M_longer_63 c1 c2 c3 c4 c5) n s = some r → Go l X_M_longer post 63 [(0, vr 8 0), (1, vi c1), (2, vi c2), (3, vi c3), (4, vi c4), (5, vi c5), (6, vi s.1)] [] s.2 := by
  intro n
  induction n with
  | zero => intro s hc; exact (lpN_0 hc).elim
  | succ n ih =>
    intro s hc
    obtain ⟨q, h, hc⟩ := lpN_inv hc
    unfold b_M_longer_63 at h
    refine go_iload 39 rfl 6 rfl ?_
    refine go_aload_n 40 rfl 0 rfl rfl ?_
    refine go_getfield 3 _ 41 rfl (by first | decide | exact ok0 (by omega) | exact ok1 (by omega) | exact ok2 (by omega) | exact ok7 (by omega)) rfl fg_M_16 rfl ?_
    refine go_iload_n 42 rfl 1 rfl rfl ?_
    obtain ⟨c, h⟩ := ck_inv h
    refine go_iaload 43 rfl (by first | decide | exact ok0 (by omega) | exact ok1 (by omega) | exact ok2 (by omega) | exact ok7 (by omega)) (inb_vp c) ?_
    refine go_icmp_ge 193 44 rfl (by decide) (fun c => ?_) (fun c => ?_)
    · replace h := ite_t c h
      cases h
      obtain rfl := lpq_r hc
      exact kk
    · replace h := ite_f c h
      refine go_iload 45 rfl 5 rfl ?_
      refine go_if_le 193 46 rfl (by decide) (fun c => ?_) (fun c => ?_)
      · replace h := ite_t c h
        cases h
        obtain rfl := lpq_r hc
        exact kk
      · replace h := ite_f c h
        refine go_aload_n 47 rfl 0 rfl rfl ?_
        refine go_getfield 1 _ 48 rfl (by first | decide | exact ok0 (by omega) | exact ok1 (by omega) | exact ok2 (by omega) | exact ok7 (by omega)) rfl fg_M_7 rfl ?_
        refine go_bipush 8 49 rfl (by decide) ?_
        refine go_iload_n 50 rfl 1 rfl rfl ?_
        refine go_imul 51 rfl ?_
        refine go_iconst 4 52 rfl (by decide) ?_
        refine go_iload_n 53 rfl 2 rfl rfl ?_
        refine go_imul 54 rfl ?_
        refine go_iadd 55 rfl ?_
        refine go_iload 56 rfl 4 rfl ?_
        refine go_iadd 57 rfl ?_
        obtain ⟨c, h⟩ := ck_inv h
        refine go_iaload 58 rfl (by first | decide | exact ok0 (by omega) | exact ok1 (by omega) | exact ok2 (by omega) | exact ok7 (by omega)) (inb_vp c) ?_
        refine go_iload 59 rfl 6 rfl ?_
        refine go_ishr 60 rfl ?_
        refine go_iconst 1 61 rfl (by decide) ?_
        refine go_iand 62 rfl ?_
        refine go_iconst 1 63 rfl (by decide) ?_
        refine go_icmp_ne 108 64 rfl (by decide) (fun c => ?_) (fun c => ?_)
        · replace h := ite_f c h
          refine go_iconst 0 67 rfl (by decide) ?_
          refine go_istore 68 rfl (Nat.le_of_ble_eq_true rfl) [(0, _), (1, _), (2, _), (3, _), (4, _), (5, _), (6, _), (7, _)] rfl ?_
          refine go_iload 69 rfl 5 rfl ?_
          refine go_iconst 2 70 rfl (by decide) ?_
          refine go_icmp_eq 132 71 rfl (by decide) (fun c => ?_) (fun c => ?_)
          · replace h := ite_t c h
            refine go_iconst 2 82 rfl (by decide) ?_
            refine go_goto 137 83 rfl (by decide) ?_
            refine go_istore 85 rfl (Nat.le_of_ble_eq_true rfl) [(0, _), (1, _), (2, _), (3, _), (4, _), (5, _), (6, _), (7, _), (8, _)] rfl ?_
            refine go_aload_n 86 rfl 0 rfl rfl ?_
            refine go_getfield 10 _ 87 rfl (by first | decide | exact ok0 (by omega) | exact ok1 (by omega) | exact ok2 (by omega) | exact ok7 (by omega)) rfl fg_M_35 rfl ?_
            refine go_iconst 3 88 rfl (by decide) ?_
            refine go_iload_n 89 rfl 3 rfl rfl ?_
            refine go_imul 90 rfl ?_
            refine go_iload 91 rfl 6 rfl ?_
            refine go_iadd 92 rfl ?_
            refine go_iload 93 rfl 7 rfl ?_
            refine go_if_eq 175 94 rfl (by decide) (fun _ => ?_) (fun c => absurd c (by decide))
            refine go_aload_n 107 rfl 0 rfl rfl ?_
            refine go_getfield 10 _ 108 rfl (by first | decide | exact ok0 (by omega) | exact ok1 (by omega) | exact ok2 (by omega) | exact ok7 (by omega)) rfl fg_M_35 rfl ?_
            refine go_iconst 3 109 rfl (by decide) ?_
            refine go_iload_n 110 rfl 3 rfl rfl ?_
            refine go_imul 111 rfl ?_
            refine go_iload 112 rfl 6 rfl ?_
            refine go_iadd 113 rfl ?_
            obtain ⟨c, h⟩ := ck_inv h
            refine go_iaload 114 rfl (by first | decide | exact ok0 (by omega) | exact ok1 (by omega) | exact ok2 (by omega) | exact ok7 (by omega)) (inb_vp c) ?_
            obtain ⟨c, h⟩ := ck_inv h
            refine go_iastore 115 rfl (by first | decide | exact ok0 (by omega) | exact ok1 (by omega) | exact ok2 (by omega) | exact ok7 (by omega)) (inb_vp c) ?_
            obtain ⟨_, c, h⟩ := bd_inv h
            cases c
            refine go_iinc 1 116 rfl 6 rfl (by decide) (Nat.le_of_ble_eq_true rfl) [(0, _), (1, _), (2, _), (3, _), (4, _), (5, _), (6, _), (7, _), (8, _)] rfl ?_
            refine go_goto 63 117 rfl (by decide) ?_
            cases h
            refine go_sub [0, 1, 2, 3, 4, 5, 6] rfl ?_
            have g9 := ih _ hc
            exact g9
          · replace h := ite_f c h
            refine go_aload_n 72 rfl 0 rfl rfl ?_
            refine go_getfield 2 _ 73 rfl (by first | decide | exact ok0 (by omega) | exact ok1 (by omega) | exact ok2 (by omega) | exact ok7 (by omega)) rfl fg_M_13 rfl ?_
            refine go_iload_n 74 rfl 1 rfl rfl ?_
            obtain ⟨c, h⟩ := ck_inv h
            refine go_iaload 75 rfl (by first | decide | exact ok0 (by omega) | exact ok1 (by omega) | exact ok2 (by omega) | exact ok7 (by omega)) (inb_vp c) ?_
            refine go_iload 76 rfl 6 rfl ?_
            refine go_ishr 77 rfl ?_
            refine go_iconst 1 78 rfl (by decide) ?_
            refine go_iand 79 rfl ?_
            refine go_iconst 1 80 rfl (by decide) ?_
            refine go_icmp_ne 136 81 rfl (by decide) (fun c => ?_) (fun c => ?_)
            · replace h := ite_f c h
              refine go_iconst 1 84 rfl (by decide) ?_
              refine go_istore 85 rfl (Nat.le_of_ble_eq_true rfl) [(0, _), (1, _), (2, _), (3, _), (4, _), (5, _), (6, _), (7, _), (8, _)] rfl ?_
              refine go_aload_n 86 rfl 0 rfl rfl ?_
              refine go_getfield 10 _ 87 rfl (by first | decide | exact ok0 (by omega) | exact ok1 (by omega) | exact ok2 (by omega) | exact ok7 (by omega)) rfl fg_M_35 rfl ?_
              refine go_iconst 3 88 rfl (by decide) ?_
              refine go_iload_n 89 rfl 3 rfl rfl ?_
              refine go_imul 90 rfl ?_
              refine go_iload 91 rfl 6 rfl ?_
              refine go_iadd 92 rfl ?_
              refine go_iload 93 rfl 7 rfl ?_
              refine go_if_eq 175 94 rfl (by decide) (fun _ => ?_) (fun c => absurd c (by decide))
              refine go_aload_n 107 rfl 0 rfl rfl ?_
              refine go_getfield 10 _ 108 rfl (by first | decide | exact ok0 (by omega) | exact ok1 (by omega) | exact ok2 (by omega) | exact ok7 (by omega)) rfl fg_M_35 rfl ?_
              refine go_iconst 3 109 rfl (by decide) ?_
              refine go_iload_n 110 rfl 3 rfl rfl ?_
              refine go_imul 111 rfl ?_
              refine go_iload 112 rfl 6 rfl ?_
              refine go_iadd 113 rfl ?_
              obtain ⟨c, h⟩ := ck_inv h
              refine go_iaload 114 rfl (by first | decide | exact ok0 (by omega) | exact ok1 (by omega) | exact ok2 (by omega) | exact ok7 (by omega)) (inb_vp c) ?_
              obtain ⟨c, h⟩ := ck_inv h
              refine go_iastore 115 rfl (by first | decide | exact ok0 (by omega) | exact ok1 (by omega) | exact ok2 (by omega) | exact ok7 (by omega)) (inb_vp c) ?_
              obtain ⟨_, c, h⟩ := bd_inv h
              cases c
              refine go_iinc 1 116 rfl 6 rfl (by decide) (Nat.le_of_ble_eq_true rfl) [(0, _), (1, _), (2, _), (3, _), (4, _), (5, _), (6, _), (7, _), (8, _)] rfl ?_
              refine go_goto 63 117 rfl (by decide) ?_
              cases h
              refine go_sub [0, 1, 2, 3, 4, 5, 6] rfl ?_
              have g9 := ih _ hc
              exact g9
            · replace h := ite_t c h
              refine go_iconst 2 82 rfl (by decide) ?_
              refine go_goto 137 83 rfl (by decide) ?_
              refine go_istore 85 rfl (Nat.le_of_ble_eq_true rfl) [(0, _), (1, _), (2, _), (3, _), (4, _), (5, _), (6, _), (7, _), (8, _)] rfl ?_
              refine go_aload_n 86 rfl 0 rfl rfl ?_
              refine go_getfield 10 _ 87 rfl (by first | decide | exact ok0 (by omega) | exact ok1 (by omega) | exact ok2 (by omega) | exact ok7 (by omega)) rfl fg_M_35 rfl ?_
              refine go_iconst 3 88 rfl (by decide) ?_
              refine go_iload_n 89 rfl 3 rfl rfl ?_
              refine go_imul 90 rfl ?_
              refine go_iload 91 rfl 6 rfl ?_
              refine go_iadd 92 rfl ?_
              refine go_iload 93 rfl 7 rfl ?_
              refine go_if_eq 175 94 rfl (by decide) (fun _ => ?_) (fun c => absurd c (by decide))
              refine go_aload_n 107 rfl 0 rfl rfl ?_
              refine go_getfield 10 _ 108 rfl (by first | decide | exact ok0 (by omega) | exact ok1 (by omega) | exact ok2 (by omega) | exact ok7 (by omega)) rfl fg_M_35 rfl ?_
              refine go_iconst 3 109 rfl (by decide) ?_
              refine go_iload_n 110 rfl 3 rfl rfl ?_
              refine go_imul 111 rfl ?_
              refine go_iload 112 rfl 6 rfl ?_
              refine go_iadd 113 rfl ?_
              obtain ⟨c, h⟩ := ck_inv h
              refine go_iaload 114 rfl (by first | decide | exact ok0 (by omega) | exact ok1 (by omega) | exact ok2 (by omega) | exact ok7 (by omega)) (inb_vp c) ?_
              obtain ⟨c, h⟩ := ck_inv h
              refine go_iastore 115 rfl (by first | decide | exact ok0 (by omega) | exact ok1 (by omega) | exact ok2 (by omega) | exact ok7 (by omega)) (inb_vp c) ?_
              obtain ⟨_, c, h⟩ := bd_inv h
              cases c
              refine go_iinc 1 116 rfl 6 rfl (by decide) (Nat.le_of_ble_eq_true rfl) [(0, _), (1, _), (2, _), (3, _), (4, _), (5, _), (6, _), (7, _), (8, _)] rfl ?_
              refine go_goto 63 117 rfl (by decide) ?_
              cases h
              refine go_sub [0, 1, 2, 3, 4, 5, 6] rfl ?_
              have g9 := ih _ hc
              exact g9
        · replace h := ite_t c h
          refine go_iconst 1 65 rfl (by decide) ?_
          refine go_goto 109 66 rfl (by decide) ?_
          refine go_istore 68 rfl (Nat.le_of_ble_eq_true rfl) [(0, _), (1, _), (2, _), (3, _), (4, _), (5, _), (6, _), (7, _)] rfl ?_
          refine go_iload 69 rfl 5 rfl ?_
          refine go_iconst 2 70 rfl (by decide) ?_
          refine go_icmp_eq 132 71 rfl (by decide) (fun c => ?_) (fun c => ?_)
          · replace h := ite_t c h
            refine go_iconst 2 82 rfl (by decide) ?_
            refine go_goto 137 83 rfl (by decide) ?_
            refine go_istore 85 rfl (Nat.le_of_ble_eq_true rfl) [(0, _), (1, _), (2, _), (3, _), (4, _), (5, _), (6, _), (7, _), (8, _)] rfl ?_
            refine go_aload_n 86 rfl 0 rfl rfl ?_
            refine go_getfield 10 _ 87 rfl (by first | decide | exact ok0 (by omega) | exact ok1 (by omega) | exact ok2 (by omega) | exact ok7 (by omega)) rfl fg_M_35 rfl ?_
            refine go_iconst 3 88 rfl (by decide) ?_
            refine go_iload_n 89 rfl 3 rfl rfl ?_
            refine go_imul 90 rfl ?_
            refine go_iload 91 rfl 6 rfl ?_
            refine go_iadd 92 rfl ?_
            refine go_iload 93 rfl 7 rfl ?_
            refine go_if_eq 175 94 rfl (by decide) (fun c => absurd c (by decide)) (fun _ => ?_)
            refine go_iload 95 rfl 8 rfl ?_
            refine go_aload_n 96 rfl 0 rfl rfl ?_
            refine go_getfield 10 _ 97 rfl (by first | decide | exact ok0 (by omega) | exact ok1 (by omega) | exact ok2 (by omega) | exact ok7 (by omega)) rfl fg_M_35 rfl ?_
            refine go_iconst 3 98 rfl (by decide) ?_
            refine go_iload_n 99 rfl 3 rfl rfl ?_
            refine go_imul 100 rfl ?_
            refine go_iload 101 rfl 6 rfl ?_
            refine go_iadd 102 rfl ?_
            obtain ⟨c, h⟩ := ck_inv h
            refine go_iaload 103 rfl (by first | decide | exact ok0 (by omega) | exact ok1 (by omega) | exact ok2 (by omega) | exact ok7 (by omega)) (inb_vp c) ?_
            refine go_icmp_le 175 104 rfl (by decide) (fun c => ?_) (fun c => ?_)
            · replace h := ite_t c h
              refine go_aload_n 107 rfl 0 rfl rfl ?_
              refine go_getfield 10 _ 108 rfl (by first | decide | exact ok0 (by omega) | exact ok1 (by omega) | exact ok2 (by omega) | exact ok7 (by omega)) rfl fg_M_35 rfl ?_
              refine go_iconst 3 109 rfl (by decide) ?_
              refine go_iload_n 110 rfl 3 rfl rfl ?_
              refine go_imul 111 rfl ?_
              refine go_iload 112 rfl 6 rfl ?_
              refine go_iadd 113 rfl ?_
              obtain ⟨c, h⟩ := ck_inv h
              refine go_iaload 114 rfl (by first | decide | exact ok0 (by omega) | exact ok1 (by omega) | exact ok2 (by omega) | exact ok7 (by omega)) (inb_vp c) ?_
              obtain ⟨c, h⟩ := ck_inv h
              refine go_iastore 115 rfl (by first | decide | exact ok0 (by omega) | exact ok1 (by omega) | exact ok2 (by omega) | exact ok7 (by omega)) (inb_vp c) ?_
              obtain ⟨_, c, h⟩ := bd_inv h
              cases c
              refine go_iinc 1 116 rfl 6 rfl (by decide) (Nat.le_of_ble_eq_true rfl) [(0, _), (1, _), (2, _), (3, _), (4, _), (5, _), (6, _), (7, _), (8, _)] rfl ?_
              refine go_goto 63 117 rfl (by decide) ?_
              cases h
              refine go_sub [0, 1, 2, 3, 4, 5, 6] rfl ?_
              have g9 := ih _ hc
              exact g9
            · replace h := ite_f c h
              refine go_iload 105 rfl 8 rfl ?_
              refine go_goto 186 106 rfl (by decide) ?_
              obtain ⟨c, h⟩ := ck_inv h
              refine go_iastore 115 rfl (by first | decide | exact ok0 (by omega) | exact ok1 (by omega) | exact ok2 (by omega) | exact ok7 (by omega)) (inb_vp c) ?_
              obtain ⟨_, c, h⟩ := bd_inv h
              cases c
              refine go_iinc 1 116 rfl 6 rfl (by decide) (Nat.le_of_ble_eq_true rfl) [(0, _), (1, _), (2, _), (3, _), (4, _), (5, _), (6, _), (7, _), (8, _)] rfl ?_
              refine go_goto 63 117 rfl (by decide) ?_
              cases h
              refine go_sub [0, 1, 2, 3, 4, 5, 6] rfl ?_
              have g9 := ih _ hc
              exact g9
          · replace h := ite_f c h
            refine go_aload_n 72 rfl 0 rfl rfl ?_
            refine go_getfield 2 _ 73 rfl (by first | decide | exact ok0 (by omega) | exact ok1 (by omega) | exact ok2 (by omega) | exact ok7 (by omega)) rfl fg_M_13 rfl ?_
            refine go_iload_n 74 rfl 1 rfl rfl ?_
            obtain ⟨c, h⟩ := ck_inv h
            refine go_iaload 75 rfl (by first | decide | exact ok0 (by omega) | exact ok1 (by omega) | exact ok2 (by omega) | exact ok7 (by omega)) (inb_vp c) ?_
            refine go_iload 76 rfl 6 rfl ?_
            refine go_ishr 77 rfl ?_
            refine go_iconst 1 78 rfl (by decide) ?_
            refine go_iand 79 rfl ?_
            refine go_iconst 1 80 rfl (by decide) ?_
            refine go_icmp_ne 136 81 rfl (by decide) (fun c => ?_) (fun c => ?_)
            · replace h := ite_f c h
              refine go_iconst 1 84 rfl (by decide) ?_
              refine go_istore 85 rfl (Nat.le_of_ble_eq_true rfl) [(0, _), (1, _), (2, _), (3, _), (4, _), (5, _), (6, _), (7, _), (8, _)] rfl ?_
              refine go_aload_n 86 rfl 0 rfl rfl ?_
              refine go_getfield 10 _ 87 rfl (by first | decide | exact ok0 (by omega) | exact ok1 (by omega) | exact ok2 (by omega) | exact ok7 (by omega)) rfl fg_M_35 rfl ?_
              refine go_iconst 3 88 rfl (by decide) ?_
              refine go_iload_n 89 rfl 3 rfl rfl ?_
              refine go_imul 90 rfl ?_
              refine go_iload 91 rfl 6 rfl ?_
              refine go_iadd 92 rfl ?_
              refine go_iload 93 rfl 7 rfl ?_
              refine go_if_eq 175 94 rfl (by decide) (fun c => absurd c (by decide)) (fun _ => ?_)
              refine go_iload 95 rfl 8 rfl ?_
              refine go_aload_n 96 rfl 0 rfl rfl ?_
              refine go_getfield 10 _ 97 rfl (by first | decide | exact ok0 (by omega) | exact ok1 (by omega) | exact ok2 (by omega) | exact ok7 (by omega)) rfl fg_M_35 rfl ?_
              refine go_iconst 3 98 rfl (by decide) ?_
              refine go_iload_n 99 rfl 3 rfl rfl ?_
              refine go_imul 100 rfl ?_
              refine go_iload 101 rfl 6 rfl ?_
              refine go_iadd 102 rfl ?_
              obtain ⟨c, h⟩ := ck_inv h
              refine go_iaload 103 rfl (by first | decide | exact ok0 (by omega) | exact ok1 (by omega) | exact ok2 (by omega) | exact ok7 (by omega)) (inb_vp c) ?_
              refine go_icmp_le 175 104 rfl (by decide) (fun c => ?_) (fun c => ?_)
              · replace h := ite_t c h
                refine go_aload_n 107 rfl 0 rfl rfl ?_
                refine go_getfield 10 _ 108 rfl (by first | decide | exact ok0 (by omega) | exact ok1 (by omega) | exact ok2 (by omega) | exact ok7 (by omega)) rfl fg_M_35 rfl ?_
                refine go_iconst 3 109 rfl (by decide) ?_
                refine go_iload_n 110 rfl 3 rfl rfl ?_
                refine go_imul 111 rfl ?_
                refine go_iload 112 rfl 6 rfl ?_
                refine go_iadd 113 rfl ?_
                obtain ⟨c, h⟩ := ck_inv h
                refine go_iaload 114 rfl (by first | decide | exact ok0 (by omega) | exact ok1 (by omega) | exact ok2 (by omega) | exact ok7 (by omega)) (inb_vp c) ?_
                obtain ⟨c, h⟩ := ck_inv h
                refine go_iastore 115 rfl (by first | decide | exact ok0 (by omega) | exact ok1 (by omega) | exact ok2 (by omega) | exact ok7 (by omega)) (inb_vp c) ?_
                obtain ⟨_, c, h⟩ := bd_inv h
                cases c
                refine go_iinc 1 116 rfl 6 rfl (by decide) (Nat.le_of_ble_eq_true rfl) [(0, _), (1, _), (2, _), (3, _), (4, _), (5, _), (6, _), (7, _), (8, _)] rfl ?_
                refine go_goto 63 117 rfl (by decide) ?_
                cases h
                refine go_sub [0, 1, 2, 3, 4, 5, 6] rfl ?_
                have g9 := ih _ hc
                exact g9
              · replace h := ite_f c h
                refine go_iload 105 rfl 8 rfl ?_
                refine go_goto 186 106 rfl (by decide) ?_
                obtain ⟨c, h⟩ := ck_inv h
                refine go_iastore 115 rfl (by first | decide | exact ok0 (by omega) | exact ok1 (by omega) | exact ok2 (by omega) | exact ok7 (by omega)) (inb_vp c) ?_
                obtain ⟨_, c, h⟩ := bd_inv h
                cases c
                refine go_iinc 1 116 rfl 6 rfl (by decide) (Nat.le_of_ble_eq_true rfl) [(0, _), (1, _), (2, _), (3, _), (4, _), (5, _), (6, _), (7, _), (8, _)] rfl ?_
                refine go_goto 63 117 rfl (by decide) ?_
                cases h
                refine go_sub [0, 1, 2, 3, 4, 5, 6] rfl ?_
                have g9 := ih _ hc
                exact g9
            · replace h := ite_t c h
              refine go_iconst 2 82 rfl (by decide) ?_
              refine go_goto 137 83 rfl (by decide) ?_
              refine go_istore 85 rfl (Nat.le_of_ble_eq_true rfl) [(0, _), (1, _), (2, _), (3, _), (4, _), (5, _), (6, _), (7, _), (8, _)] rfl ?_
              refine go_aload_n 86 rfl 0 rfl rfl ?_
              refine go_getfield 10 _ 87 rfl (by first | decide | exact ok0 (by omega) | exact ok1 (by omega) | exact ok2 (by omega) | exact ok7 (by omega)) rfl fg_M_35 rfl ?_
              refine go_iconst 3 88 rfl (by decide) ?_
              refine go_iload_n 89 rfl 3 rfl rfl ?_
              refine go_imul 90 rfl ?_
              refine go_iload 91 rfl 6 rfl ?_
              refine go_iadd 92 rfl ?_
              refine go_iload 93 rfl 7 rfl ?_
              refine go_if_eq 175 94 rfl (by decide) (fun c => absurd c (by decide)) (fun _ => ?_)
              refine go_iload 95 rfl 8 rfl ?_
              refine go_aload_n 96 rfl 0 rfl rfl ?_
              refine go_getfield 10 _ 97 rfl (by first | decide | exact ok0 (by omega) | exact ok1 (by omega) | exact ok2 (by omega) | exact ok7 (by omega)) rfl fg_M_35 rfl ?_
              refine go_iconst 3 98 rfl (by decide) ?_
              refine go_iload_n 99 rfl 3 rfl rfl ?_
              refine go_imul 100 rfl ?_
              refine go_iload 101 rfl 6 rfl ?_
              refine go_iadd 102 rfl ?_
              obtain ⟨c, h⟩ := ck_inv h
              refine go_iaload 103 rfl (by first | decide | exact ok0 (by omega) | exact ok1 (by omega) | exact ok2 (by omega) | exact ok7 (by omega)) (inb_vp c) ?_
              refine go_icmp_le 175 104 rfl (by decide) (fun c => ?_) (fun c => ?_)
              · replace h := ite_t c h
                refine go_aload_n 107 rfl 0 rfl rfl ?_
                refine go_getfield 10 _ 108 rfl (by first | decide | exact ok0 (by omega) | exact ok1 (by omega) | exact ok2 (by omega) | exact ok7 (by omega)) rfl fg_M_35 rfl ?_
                refine go_iconst 3 109 rfl (by decide) ?_
                refine go_iload_n 110 rfl 3 rfl rfl ?_
                refine go_imul 111 rfl ?_
                refine go_iload 112 rfl 6 rfl ?_
                refine go_iadd 113 rfl ?_
                obtain ⟨c, h⟩ := ck_inv h
                refine go_iaload 114 rfl (by first | decide | exact ok0 (by omega) | exact ok1 (by omega) | exact ok2 (by omega) | exact ok7 (by omega)) (inb_vp c) ?_
                obtain ⟨c, h⟩ := ck_inv h
                refine go_iastore 115 rfl (by first | decide | exact ok0 (by omega) | exact ok1 (by omega) | exact ok2 (by omega) | exact ok7 (by omega)) (inb_vp c) ?_
                obtain ⟨_, c, h⟩ := bd_inv h
                cases c
                refine go_iinc 1 116 rfl 6 rfl (by decide) (Nat.le_of_ble_eq_true rfl) [(0, _), (1, _), (2, _), (3, _), (4, _), (5, _), (6, _), (7, _), (8, _)] rfl ?_
                refine go_goto 63 117 rfl (by decide) ?_
                cases h
                refine go_sub [0, 1, 2, 3, 4, 5, 6] rfl ?_
                have g9 := ih _ hc
                exact g9
              · replace h := ite_f c h
                refine go_iload 105 rfl 8 rfl ?_
                refine go_goto 186 106 rfl (by decide) ?_
                obtain ⟨c, h⟩ := ck_inv h
                refine go_iastore 115 rfl (by first | decide | exact ok0 (by omega) | exact ok1 (by omega) | exact ok2 (by omega) | exact ok7 (by omega)) (inb_vp c) ?_
                obtain ⟨_, c, h⟩ := bd_inv h
                cases c
                refine go_iinc 1 116 rfl 6 rfl (by decide) (Nat.le_of_ble_eq_true rfl) [(0, _), (1, _), (2, _), (3, _), (4, _), (5, _), (6, _), (7, _), (8, _)] rfl ?_
                refine go_goto 63 117 rfl (by decide) ?_
                cases h
                refine go_sub [0, 1, 2, 3, 4, 5, 6] rfl ?_
                have g9 := ih _ hc
                exact g9
set_option maxRecDepth 20000 in
theorem w_M_longer_36 {l : Launch} {post : Option PV → Mm → Prop} (c1 : Int32) (c2 : Int32) (c3 : Int32)  {r : Int32 × Mm} (kk : Go l X_M_longer post 199 [(0, vr 8 0), (1, vi c1), (2, vi c2), (3, vi c3), (4, vi r.1)] [] r.2) : ∀ (n : Nat) (s : Int32 × Mm), lpN (b_M_longer_36 c1 c2 c3) n s = some r → Go l X_M_longer post 36 [(0, vr 8 0), (1, vi c1), (2, vi c2), (3, vi c3), (4, vi s.1)] [] s.2 := by
  intro n
  induction n with
  | zero => intro s hc; exact (lpN_0 hc).elim
  | succ n ih =>
    intro s hc
    obtain ⟨q, h, hc⟩ := lpN_inv hc
    unfold b_M_longer_36 at h
    refine go_iload 22 rfl 4 rfl ?_
    refine go_aload_n 23 rfl 0 rfl rfl ?_
    refine go_getfield 3 _ 24 rfl (by first | decide | exact ok0 (by omega) | exact ok1 (by omega) | exact ok2 (by omega) | exact ok7 (by omega)) rfl fg_M_16 rfl ?_
    refine go_iload_n 25 rfl 1 rfl rfl ?_
    obtain ⟨c, h⟩ := ck_inv h
    refine go_iaload 26 rfl (by first | decide | exact ok0 (by omega) | exact ok1 (by omega) | exact ok2 (by omega) | exact ok7 (by omega)) (inb_vp c) ?_
    refine go_icmp_ge 199 27 rfl (by decide) (fun c => ?_) (fun c => ?_)
    · replace h := ite_t c h
      cases h
      obtain rfl := lpq_r hc
      exact kk
    · replace h := ite_f c h
      refine go_aload_n 28 rfl 0 rfl rfl ?_
      refine go_getfield 9 _ 29 rfl (by first | decide | exact ok0 (by omega) | exact ok1 (by omega) | exact ok2 (by omega) | exact ok7 (by omega)) rfl fg_M_32 rfl ?_
      refine go_iconst 3 30 rfl (by decide) ?_
      refine go_iload_n 31 rfl 3 rfl rfl ?_
      refine go_imul 32 rfl ?_
      refine go_iload 33 rfl 4 rfl ?_
      refine go_iadd 34 rfl ?_
      obtain ⟨c, h⟩ := ck_inv h
      refine go_iaload 35 rfl (by first | decide | exact ok0 (by omega) | exact ok1 (by omega) | exact ok2 (by omega) | exact ok7 (by omega)) (inb_vp c) ?_
      obtain ⟨_, c, h⟩ := bd_inv h
      cases c
      refine go_istore 36 rfl (Nat.le_of_ble_eq_true rfl) [(0, _), (1, _), (2, _), (3, _), (4, _), (5, _)] rfl ?_
      refine go_iconst 0 37 rfl (by decide) ?_
      refine go_istore 38 rfl (Nat.le_of_ble_eq_true rfl) [(0, _), (1, _), (2, _), (3, _), (4, _), (5, _), (6, _)] rfl ?_
      obtain ⟨r13, c, h⟩ := bd_inv h
      refine w_M_longer_63 _ _ _ _ _ ?_ _ _ c
      refine go_iinc 1 118 rfl 4 rfl (by decide) (Nat.le_of_ble_eq_true rfl) [(0, _), (1, _), (2, _), (3, _), (4, _), (5, _), (6, _)] rfl ?_
      refine go_goto 36 119 rfl (by decide) ?_
      cases h
      refine go_sub [0, 1, 2, 3, 4] rfl ?_
      have g9 := ih _ hc
      exact g9
set_option maxRecDepth 20000 in
theorem w_M_longer_23 {l : Launch} {post : Option PV → Mm → Prop} (c1 : Int32) (c2 : Int32)  {r : Int32 × Mm} (kk : Go l X_M_longer post 205 [(0, vr 8 0), (1, vi c1), (2, vi c2), (3, vi r.1)] [] r.2) : ∀ (n : Nat) (s : Int32 × Mm), lpN (b_M_longer_23 c1 c2) n s = some r → Go l X_M_longer post 23 [(0, vr 8 0), (1, vi c1), (2, vi c2), (3, vi s.1)] [] s.2 := by
  intro n
  induction n with
  | zero => intro s hc; exact (lpN_0 hc).elim
  | succ n ih =>
    intro s hc
    obtain ⟨q, h, hc⟩ := lpN_inv hc
    unfold b_M_longer_23 at h
    refine go_iload_n 14 rfl 3 rfl rfl ?_
    refine go_aload_n 15 rfl 0 rfl rfl ?_
    refine go_getfield 3 _ 16 rfl (by first | decide | exact ok0 (by omega) | exact ok1 (by omega) | exact ok2 (by omega) | exact ok7 (by omega)) rfl fg_M_16 rfl ?_
    refine go_iload_n 17 rfl 1 rfl rfl ?_
    obtain ⟨c, h⟩ := ck_inv h
    refine go_iaload 18 rfl (by first | decide | exact ok0 (by omega) | exact ok1 (by omega) | exact ok2 (by omega) | exact ok7 (by omega)) (inb_vp c) ?_
    refine go_icmp_ge 205 19 rfl (by decide) (fun c => ?_) (fun c => ?_)
    · replace h := ite_t c h
      cases h
      obtain rfl := lpq_r hc
      exact kk
    · replace h := ite_f c h
      refine go_iconst 0 20 rfl (by decide) ?_
      refine go_istore 21 rfl (Nat.le_of_ble_eq_true rfl) [(0, _), (1, _), (2, _), (3, _), (4, _)] rfl ?_
      obtain ⟨r14, c, h⟩ := bd_inv h
      refine w_M_longer_36 _ _ _ ?_ _ _ c
      refine go_iinc 1 120 rfl 3 rfl (by decide) (Nat.le_of_ble_eq_true rfl) [(0, _), (1, _), (2, _), (3, _), (4, _)] rfl ?_
      refine go_goto 23 121 rfl (by decide) ?_
      cases h
      refine go_sub [0, 1, 2, 3] rfl ?_
      have g9 := ih _ hc
      exact g9
set_option maxRecDepth 20000 in
theorem w_M_longer_211 {l : Launch} {post : Option PV → Mm → Prop} (c1 : Int32) (c2 : Int32) (M : Mm)  {r : Int32 × Int32} (kk : Go l X_M_longer post 234 [(0, vr 8 0), (1, vi c1), (2, vi c2), (3, vi r.1), (4, vi r.2)] [] M) : ∀ (n : Nat) (s : Int32 × Int32), lpN (b_M_longer_211 M) n s = some r → Go l X_M_longer post 211 [(0, vr 8 0), (1, vi c1), (2, vi c2), (3, vi s.1), (4, vi s.2)] [] M := by
  intro n
  induction n with
  | zero => intro s hc; exact (lpN_0 hc).elim
  | succ n ih =>
    intro s hc
    obtain ⟨q, h, hc⟩ := lpN_inv hc
    unfold b_M_longer_211 at h
    refine go_iload 126 rfl 4 rfl ?_
    refine go_if_lt 234 127 rfl (by decide) (fun c => ?_) (fun c => ?_)
    · replace h := ite_t c h
      cases h
      obtain rfl := lpq_r hc
      exact kk
    · replace h := ite_f c h
      refine go_iconst 3 128 rfl (by decide) ?_
      refine go_iload_n 129 rfl 3 rfl rfl ?_
      refine go_imul 130 rfl ?_
      refine go_aload_n 131 rfl 0 rfl rfl ?_
      refine go_getfield 10 _ 132 rfl (by first | decide | exact ok0 (by omega) | exact ok1 (by omega) | exact ok2 (by omega) | exact ok7 (by omega)) rfl fg_M_35 rfl ?_
      refine go_iload 133 rfl 4 rfl ?_
      obtain ⟨c, h⟩ := ck_inv h
      refine go_iaload 134 rfl (by first | decide | exact ok0 (by omega) | exact ok1 (by omega) | exact ok2 (by omega) | exact ok7 (by omega)) (inb_vp c) ?_
      refine go_iadd 135 rfl ?_
      obtain ⟨_, c, h⟩ := bd_inv h
      cases c
      refine go_istore_n 136 rfl rfl (Nat.le_of_ble_eq_true rfl) [(0, _), (1, _), (2, _), (3, _), (4, _)] rfl ?_
      refine go_iinc (-1) 137 rfl 4 rfl (by decide) (Nat.le_of_ble_eq_true rfl) [(0, _), (1, _), (2, _), (3, _), (4, _)] rfl ?_
      refine go_goto 211 138 rfl (by decide) ?_
      cases h
      have g9 := ih _ hc
      exact g9
set_option maxRecDepth 20000 in
theorem e_M_longer {l : Launch} {a1 : Int32} {a2 : Int32} {M : Mm} {r : Int32 × Mm}  (h : m_M_longer a1 a2 M = some r) : Ev l X_M_longer [vr 8 0, vi a1, vi a2] M (fun v M2 => v = (some (vi r.1)) ∧ M2 = r.2) := by
  refine Ev.of mk_M_longer [(0, vr 8 0), (1, vi a1), (2, vi a2)] (fun _ => rfl) (fun _ => (Nat.le_of_ble_eq_true rfl)) ?_
  unfold m_M_longer at h
  refine go_iconst 0 0 rfl (by decide) ?_
  refine go_istore_n 1 rfl rfl (Nat.le_of_ble_eq_true rfl) [(0, _), (1, _), (2, _), (3, _)] rfl ?_
  obtain ⟨r2, c, h⟩ := bd_inv h
  refine w_M_longer_2 _ _ ?_ _ _ c
  refine go_iconst 0 12 rfl (by decide) ?_
  refine go_istore_n 13 rfl rfl (Nat.le_of_ble_eq_true rfl) [(0, _), (1, _), (2, _), (3, _)] rfl ?_
  obtain ⟨r15, c, h⟩ := bd_inv h
  refine w_M_longer_23 _ _ ?_ _ _ c
  refine go_iconst 0 122 rfl (by decide) ?_
  refine go_istore_n 123 rfl rfl (Nat.le_of_ble_eq_true rfl) [(0, _), (1, _), (2, _), (3, _)] rfl ?_
  refine go_bipush 8 124 rfl (by decide) ?_
  refine go_istore 125 rfl (Nat.le_of_ble_eq_true rfl) [(0, _), (1, _), (2, _), (3, _), (4, _)] rfl ?_
  obtain ⟨r17, c, h⟩ := bd_inv h
  refine w_M_longer_211 _ _ _ ?_ _ _ c
  refine go_iload_n 139 rfl 3 rfl rfl ?_
  cases h
  exact go_ireturn 140 rfl rfl rfl ⟨rfl, rfl⟩
def X_M_power : MX := (⟨"OmegaDeskModel", "power", "(I)I"⟩, prog_8_method_30_code, 3, some .int, { frames := 0, cells := 0, slots := 0, locals := 0 },
  [(0, .iconst 1, 1), (1, .istore_n 1, 2), (2, .iconst 0, 3), (3, .istore_n 2, 4), (4, .iload_n 2, 5), (5, .iload_n 0, 6), (6, .if_icmp .ge 13, 9), (9, .iconst 3, 10), (10, .iload_n 1, 11), (11, .imul, 12), (12, .istore_n 1, 13), (13, .iinc 2 1, 16), (16, .goto (-12), 19), (19, .iload_n 1, 20), (20, .ireturn, 21)])
set_option maxRecDepth 20000 in
theorem mk_M_power : Mk X_M_power := ⟨by unfold TBk; decide +kernel, by decide +kernel, wb_663, ⟨by decide, by decide⟩, rfl, rfl, wb_6⟩
def b_M_power_4 (c0 : Int32) (s : Int32 × Int32) : Option ((Int32 × Int32) ⊕ (Int32 × Int32)) :=
  if c0 ≤ s.2 then
    some (Sum.inr (s.1, s.2))
  else
    some (Sum.inl (((3 : Int32) * s.1), (s.2 + 1)))
def m_M_power (a0 : Int32) : Option (Int32) :=
  bd (lp (b_M_power_4 a0) ((1 : Int32), (0 : Int32))) fun r1 =>
  some r1.1
set_option maxRecDepth 20000 in
theorem w_M_power_4 {l : Launch} {post : Option PV → Mm → Prop} (c0 : Int32) (M : Mm)  {r : Int32 × Int32} (kk : Go l X_M_power post 19 [(0, vi c0), (1, vi r.1), (2, vi r.2)] [] M) : ∀ (n : Nat) (s : Int32 × Int32), lpN (b_M_power_4 c0) n s = some r → Go l X_M_power post 4 [(0, vi c0), (1, vi s.1), (2, vi s.2)] [] M := by
  intro n
  induction n with
  | zero => intro s hc; exact (lpN_0 hc).elim
  | succ n ih =>
    intro s hc
    obtain ⟨q, h, hc⟩ := lpN_inv hc
    unfold b_M_power_4 at h
    refine go_iload_n 4 rfl 2 rfl rfl ?_
    refine go_iload_n 5 rfl 0 rfl rfl ?_
    refine go_icmp_ge 19 6 rfl (by decide) (fun c => ?_) (fun c => ?_)
    · replace h := ite_t c h
      cases h
      obtain rfl := lpq_r hc
      exact kk
    · replace h := ite_f c h
      refine go_iconst 3 7 rfl (by decide) ?_
      refine go_iload_n 8 rfl 1 rfl rfl ?_
      refine go_imul 9 rfl ?_
      refine go_istore_n 10 rfl rfl (Nat.le_of_ble_eq_true rfl) [(0, _), (1, _), (2, _)] rfl ?_
      refine go_iinc 1 11 rfl 2 rfl (by decide) (Nat.le_of_ble_eq_true rfl) [(0, _), (1, _), (2, _)] rfl ?_
      refine go_goto 4 12 rfl (by decide) ?_
      cases h
      have g9 := ih _ hc
      exact g9
set_option maxRecDepth 20000 in
theorem e_M_power {l : Launch} {a0 : Int32} {M : Mm} {r : Int32}  (h : m_M_power a0 = some r) : Ev l X_M_power [vi a0] M (fun v M2 => v = (some (vi r)) ∧ M2 = M) := by
  refine Ev.of mk_M_power [(0, vi a0)] (fun _ => rfl) (fun _ => (Nat.le_of_ble_eq_true rfl)) ?_
  unfold m_M_power at h
  refine go_iconst 1 0 rfl (by decide) ?_
  refine go_istore_n 1 rfl rfl (Nat.le_of_ble_eq_true rfl) [(0, _), (1, _)] rfl ?_
  refine go_iconst 0 2 rfl (by decide) ?_
  refine go_istore_n 3 rfl rfl (Nat.le_of_ble_eq_true rfl) [(0, _), (1, _), (2, _)] rfl ?_
  obtain ⟨r1, c, h⟩ := bd_inv h
  refine w_M_power_4 _ _ ?_ _ _ c
  refine go_iload_n 13 rfl 1 rfl rfl ?_
  cases h
  exact go_ireturn 14 rfl rfl rfl ⟨rfl, rfl⟩
