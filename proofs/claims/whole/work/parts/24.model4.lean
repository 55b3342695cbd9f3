def X_M_letter : MX := (⟨"OmegaDeskModel", "letter", "(IIIII)I"⟩, prog_8_method_17_code, 5, some .int, { frames := 0, cells := 0, slots := 0, locals := 0 },
  [(0, .iload 4, 2), (2, .iload_n 0, 3), (3, .if_icmp .ge 16, 6), (6, .iload_n 1, 7), (7, .iload_n 0, 8), (8, .iconst 1, 9), (9, .isub, 10), (10, .iload 4, 12), (12, .isub, 13), (13, .ishr, 14), (14, .iconst 1, 15), (15, .iand, 16), (16, .goto 15, 19), (19, .iload_n 3, 20), (20, .iload_n 2, 21), (21, .iconst 1, 22), (22, .isub, 23), (23, .iload 4, 25), (25, .iload_n 0, 26), (26, .isub, 27), (27, .isub, 28), (28, .ishr, 29), (29, .iconst 1, 30), (30, .iand, 31), (31, .ireturn, 32)])
set_option maxRecDepth 20000 in
theorem mk_M_letter : Mk X_M_letter := ⟨by unfold TBk; decide +kernel, by decide +kernel, wb_640, ⟨by decide, by decide⟩, rfl, rfl, wb_6⟩
def m_M_letter (a0 : Int32) (a1 : Int32) (a2 : Int32) (a3 : Int32) (a4 : Int32) : Option (Int32) :=
  if a0 ≤ a4 then
    some ((a3 >>> (((a2 - (1 : Int32)) - (a4 - a0)) &&& 31)) &&& (1 : Int32))
  else
    some ((a1 >>> (((a0 - (1 : Int32)) - a4) &&& 31)) &&& (1 : Int32))
set_option maxRecDepth 20000 in
theorem e_M_letter {l : Launch} {a0 : Int32} {a1 : Int32} {a2 : Int32} {a3 : Int32} {a4 : Int32} {M : Mm} {r : Int32}  (h : m_M_letter a0 a1 a2 a3 a4 = some r) : Ev l X_M_letter [vi a0, vi a1, vi a2, vi a3, vi a4] M (fun v M2 => v = (some (vi r)) ∧ M2 = M) := by
  refine Ev.of mk_M_letter [(0, vi a0), (1, vi a1), (2, vi a2), (3, vi a3), (4, vi a4)] (fun _ => rfl) (fun _ => (Nat.le_of_ble_eq_true rfl)) ?_
  unfold m_M_letter at h
  refine go_iload 0 rfl 4 rfl ?_
  refine go_iload_n 1 rfl 0 rfl rfl ?_
  refine go_icmp_ge 19 2 rfl (by decide) (fun c => ?_) (fun c => ?_)
  · replace h := ite_t c h
    refine go_iload_n 13 rfl 3 rfl rfl ?_
    refine go_iload_n 14 rfl 2 rfl rfl ?_
    refine go_iconst 1 15 rfl (by decide) ?_
    refine go_isub 16 rfl ?_
    refine go_iload 17 rfl 4 rfl ?_
    refine go_iload_n 18 rfl 0 rfl rfl ?_
    refine go_isub 19 rfl ?_
    refine go_isub 20 rfl ?_
    refine go_ishr 21 rfl ?_
    refine go_iconst 1 22 rfl (by decide) ?_
    refine go_iand 23 rfl ?_
    cases h
    exact go_ireturn 24 rfl rfl rfl ⟨rfl, rfl⟩
  · replace h := ite_f c h
    refine go_iload_n 3 rfl 1 rfl rfl ?_
    refine go_iload_n 4 rfl 0 rfl rfl ?_
    refine go_iconst 1 5 rfl (by decide) ?_
    refine go_isub 6 rfl ?_
    refine go_iload 7 rfl 4 rfl ?_
    refine go_isub 8 rfl ?_
    refine go_ishr 9 rfl ?_
    refine go_iconst 1 10 rfl (by decide) ?_
    refine go_iand 11 rfl ?_
    refine go_goto 31 12 rfl (by decide) ?_
    cases h
    exact go_ireturn 24 rfl rfl rfl ⟨rfl, rfl⟩
def X_M_behind : MX := (⟨"OmegaDeskModel", "behind", "(IJIIII)J"⟩, prog_8_method_18_code, 15, some .long, { frames := 1, cells := 0, slots := 0, locals := 24 },
  [(0, .lconst 0, 1), (1, .lstore 8, 3), (3, .iconst 0, 4), (4, .istore 10, 6), (6, .iload 10, 8), (8, .iload 4, 10), (10, .iload 6, 12), (12, .iadd, 13), (13, .if_icmp .ge 119, 16), (16, .lload_n 2, 17), (17, .iconst 4, 18), (18, .iload 10, 20), (20, .imul, 21), (21, .lushr, 22), (22, .ldc2_w 72, 25), (25, .land, 26), (26, .l2i, 27), (27, .istore 11, 29), (29, .iload 10, 31), (31, .iconst 1, 32), (32, .iadd, 33), (33, .iload 4, 35), (35, .iload 6, 37), (37, .iadd, 38), (38, .if_icmp .ne 8, 41), (41, .iload 4, 43), (43, .goto 7, 46), (46, .iload 10, 48), (48, .iconst 1, 49), (49, .iadd, 50), (50, .istore 12, 52), (52, .iload 4, 54), (54, .iload 5, 56), (56, .iload 6, 58), (58, .iload 7, 60), (60, .iload 10, 62), (62, .invokestatic 74, 65), (65, .istore 13, 67), (67, .iconst 0, 68), (68, .istore 14, 70), (70, .iload 14, 72), (72, .aload_n 0, 73), (73, .getfield 16, 76), (76, .iload_n 1, 77), (77, .iaload, 78), (78, .if_icmp .ge 48, 81), (81, .iload 11, 83), (83, .iload 14, 85), (85, .ishr, 86), (86, .iconst 1, 87), (87, .iand, 88), (88, .iconst 1, 89), (89, .if_icmp .ne 31, 92), (92, .lload 8, 94), (94, .aload_n 0, 95), (95, .getfield 7, 98), (98, .bipush 8, 100), (100, .iload_n 1, 101), (101, .imul, 102), (102, .iconst 4, 103), (103, .iload 13, 105), (105, .imul, 106), (106, .iadd, 107), (107, .iload 14, 109), (109, .iadd, 110), (110, .iaload, 111), (111, .i2l, 112), (112, .iconst 4, 113), (113, .iload 12, 115), (115, .imul, 116), (116, .lshl, 117), (117, .lor, 118), (118, .lstore 8, 120), (120, .iinc 14 1, 123), (123, .goto (-53), 126), (126, .iinc 10 1, 129), (129, .goto (-123), 132), (132, .lload 8, 134), (134, .lreturn, 135)])
set_option maxRecDepth 20000 in
theorem mk_M_behind : Mk X_M_behind := ⟨by unfold TBk; decide +kernel, by decide +kernel, wb_636, ⟨by decide, by decide⟩, rfl, rfl, wb_6⟩
theorem cs_M_74 : CS "OmegaDeskModel" 74 X_M_letter 5 := ⟨Or.inl wb_638, wb_639, by decide +kernel⟩
def b_M_behind_70 (c1 : Int32) (c11 : Int32) (c12 : Int32) (c13 : Int32) (M : Mm) (s : Int64 × Int32) : Option ((Int64 × Int32) ⊕ (Int64 × Int32)) :=
  ck (inb c1 (lenI 18)) <|
  if (M.1 (1, 18) c1.toNatClampNeg) ≤ s.2 then
    some (Sum.inr (s.1, s.2))
  else
    if ((c11 >>> (s.2 &&& 31)) &&& (1 : Int32)) = (1 : Int32) then
      ck (inb ((((8 : Int32) * c1) + ((4 : Int32) * c13)) + s.2) (lenI 16)) <|
      bd (some (s.1 ||| (((M.1 (1, 16) ((((8 : Int32) * c1) + ((4 : Int32) * c13)) + s.2).toNatClampNeg).toInt64) <<< (((4 : Int32) * c12).toInt64 &&& 63)))) fun x3 =>
      some (Sum.inl (x3, (s.2 + 1)))
    else
      some (Sum.inl (s.1, (s.2 + 1)))
def b_M_behind_6 (c1 : Int32) (c2 : Int64) (c4 : Int32) (c5 : Int32) (c6 : Int32) (c7 : Int32) (M : Mm) (s : Int64 × Int32) : Option ((Int64 × Int32) ⊕ (Int64 × Int32)) :=
  if (c4 + c6) ≤ s.2 then
    some (Sum.inr (s.1, s.2))
  else
    bd (some ((((c2.toUInt64 >>> (((4 : Int32) * s.2).toInt64.toUInt64 &&& Int64.toUInt64 63)).toInt64) &&& (15 : Int64)).toInt32)) fun x1 =>
    if (s.2 + (1 : Int32)) = (c4 + c6) then
      bd (m_M_letter c4 c5 c6 c7 s.2) fun r5 =>
      bd (lp (b_M_behind_70 c1 x1 c4 r5 M) (s.1, (0 : Int32))) fun r6 =>
      some (Sum.inl (r6.1, (s.2 + 1)))
    else
      bd (m_M_letter c4 c5 c6 c7 s.2) fun r2 =>
      bd (lp (b_M_behind_70 c1 x1 (s.2 + (1 : Int32)) r2 M) (s.1, (0 : Int32))) fun r4 =>
      some (Sum.inl (r4.1, (s.2 + 1)))
def m_M_behind (a1 : Int32) (a2 : Int64) (a4 : Int32) (a5 : Int32) (a6 : Int32) (a7 : Int32) (M : Mm) : Option (Int64) :=
  bd (lp (b_M_behind_6 a1 a2 a4 a5 a6 a7 M) ((0 : Int64), (0 : Int32))) fun r7 =>
  some r7.1
set_option maxRecDepth 20000 in
theorem w_M_behind_70 {l : Launch} {post : Option PV → Mm → Prop} (c1 : Int32) (c2 : Int64) (c4 : Int32) (c5 : Int32) (c6 : Int32) (c7 : Int32) (c10 : Int32) (c11 : Int32) (c12 : Int32) (c13 : Int32) (M : Mm)  {r : Int64 × Int32} (kk : Go l X_M_behind post 126 [(0, vr 8 0), (1, vi c1), (2, vl c2), (4, vi c4), (5, vi c5), (6, vi c6), (7, vi c7), (8, vl r.1), (10, vi c10), (11, vi c11), (12, vi c12), (13, vi c13), (14, vi r.2)] [] M) : ∀ (n : Nat) (s : Int64 × Int32), lpN (b_M_behind_70 c1 c11 c12 c13 M) n s = some r → Go l X_M_behind post 70 [(0, vr 8 0), (1, vi c1), (2, vl c2), (4, vi c4), (5, vi c5), (6, vi c6), (7, vi c7), (8, vl s.1), (10, vi c10), (11, vi c11), (12, vi c12), (13, vi c13), (14, vi s.2)] [] M := by
  intro n
  induction n with
  | zero => intro s hc; exact (lpN_0 hc).elim
  | succ n ih =>
    intro s hc
    obtain ⟨q, h, hc⟩ := lpN_inv hc
    unfold b_M_behind_70 at h
    refine go_iload 40 rfl 12 rfl ?_
    refine go_aload_n 41 rfl 0 rfl rfl ?_
    refine go_getfield 3 _ 42 rfl (by first | decide | exact ok0 (by omega) | exact ok1 (by omega) | exact ok2 (by omega) | exact ok7 (by omega)) rfl fg_M_16 rfl ?_
    refine go_iload_n 43 rfl 1 rfl rfl ?_
    obtain ⟨c, h⟩ := ck_inv h
    refine go_iaload 44 rfl (by first | decide | exact ok0 (by omega) | exact ok1 (by omega) | exact ok2 (by omega) | exact ok7 (by omega)) (inb_vp c) ?_
    refine go_icmp_ge 126 45 rfl (by decide) (fun c => ?_) (fun c => ?_)
    · replace h := ite_t c h
      cases h
      obtain rfl := lpq_r hc
      exact kk
    · replace h := ite_f c h
      refine go_iload 46 rfl 9 rfl ?_
      refine go_iload 47 rfl 12 rfl ?_
      refine go_ishr 48 rfl ?_
      refine go_iconst 1 49 rfl (by decide) ?_
      refine go_iand 50 rfl ?_
      refine go_iconst 1 51 rfl (by decide) ?_
      refine go_icmp_ne 120 52 rfl (by decide) (fun c => ?_) (fun c => ?_)
      · replace h := ite_f c h
        refine go_iinc 1 73 rfl 12 rfl (by decide) (Nat.le_of_ble_eq_true rfl) [(0, _), (1, _), (2, _), (4, _), (5, _), (6, _), (7, _), (8, _), (10, _), (11, _), (12, _), (13, _), (14, _)] rfl ?_
        refine go_goto 70 74 rfl (by decide) ?_
        cases h
        have g9 := ih _ hc
        exact g9
      · replace h := ite_t c h
        refine go_lload 53 rfl 7 rfl ?_
        refine go_aload_n 54 rfl 0 rfl rfl ?_
        refine go_getfield 1 _ 55 rfl (by first | decide | exact ok0 (by omega) | exact ok1 (by omega) | exact ok2 (by omega) | exact ok7 (by omega)) rfl fg_M_7 rfl ?_
        refine go_bipush 8 56 rfl (by decide) ?_
        refine go_iload_n 57 rfl 1 rfl rfl ?_
        refine go_imul 58 rfl ?_
        refine go_iconst 4 59 rfl (by decide) ?_
        refine go_iload 60 rfl 11 rfl ?_
        refine go_imul 61 rfl ?_
        refine go_iadd 62 rfl ?_
        refine go_iload 63 rfl 12 rfl ?_
        refine go_iadd 64 rfl ?_
        obtain ⟨c, h⟩ := ck_inv h
        refine go_iaload 65 rfl (by first | decide | exact ok0 (by omega) | exact ok1 (by omega) | exact ok2 (by omega) | exact ok7 (by omega)) (inb_vp c) ?_
        refine go_i2l 66 rfl ?_
        refine go_iconst 4 67 rfl (by decide) ?_
        refine go_iload 68 rfl 10 rfl ?_
        refine go_imul 69 rfl ?_
        refine go_lshl 70 rfl ?_
        refine go_lor 71 rfl ?_
        obtain ⟨_, c, h⟩ := bd_inv h
        cases c
        refine go_lstore 72 rfl (Nat.le_of_ble_eq_true rfl) [(0, _), (1, _), (2, _), (4, _), (5, _), (6, _), (7, _), (8, _), (10, _), (11, _), (12, _), (13, _), (14, _)] rfl ?_
        refine go_iinc 1 73 rfl 12 rfl (by decide) (Nat.le_of_ble_eq_true rfl) [(0, _), (1, _), (2, _), (4, _), (5, _), (6, _), (7, _), (8, _), (10, _), (11, _), (12, _), (13, _), (14, _)] rfl ?_
        refine go_goto 70 74 rfl (by decide) ?_
        cases h
        have g9 := ih _ hc
        exact g9
set_option maxRecDepth 20000 in
theorem w_M_behind_6 {l : Launch} {post : Option PV → Mm → Prop} (c1 : Int32) (c2 : Int64) (c4 : Int32) (c5 : Int32) (c6 : Int32) (c7 : Int32) (M : Mm)  {r : Int64 × Int32} (kk : Go l X_M_behind post 132 [(0, vr 8 0), (1, vi c1), (2, vl c2), (4, vi c4), (5, vi c5), (6, vi c6), (7, vi c7), (8, vl r.1), (10, vi r.2)] [] M) : ∀ (n : Nat) (s : Int64 × Int32), lpN (b_M_behind_6 c1 c2 c4 c5 c6 c7 M) n s = some r → Go l X_M_behind post 6 [(0, vr 8 0), (1, vi c1), (2, vl c2), (4, vi c4), (5, vi c5), (6, vi c6), (7, vi c7), (8, vl s.1), (10, vi s.2)] [] M := by
  intro n
  induction n with
  | zero => intro s hc; exact (lpN_0 hc).elim
  | succ n ih =>
    intro s hc
    obtain ⟨q, h, hc⟩ := lpN_inv hc
    unfold b_M_behind_6 at h
    refine go_iload 4 rfl 8 rfl ?_
    refine go_iload 5 rfl 3 rfl ?_
    refine go_iload 6 rfl 5 rfl ?_
    refine go_iadd 7 rfl ?_
    refine go_icmp_ge 132 8 rfl (by decide) (fun c => ?_) (fun c => ?_)
    · replace h := ite_t c h
      cases h
      obtain rfl := lpq_r hc
      exact kk
    · replace h := ite_f c h
      refine go_lload_n 9 rfl 2 rfl rfl ?_
      refine go_iconst 4 10 rfl (by decide) ?_
      refine go_iload 11 rfl 8 rfl ?_
      refine go_imul 12 rfl ?_
      refine go_lushr 13 rfl ?_
      refine go_ldc2 15 14 rfl wb_637 ?_
      refine go_land 15 rfl ?_
      refine go_l2i 16 rfl ?_
      obtain ⟨_, c, h⟩ := bd_inv h
      cases c
      refine go_istore 17 rfl (Nat.le_of_ble_eq_true rfl) [(0, _), (1, _), (2, _), (4, _), (5, _), (6, _), (7, _), (8, _), (10, _), (11, _)] rfl ?_
      refine go_iload 18 rfl 8 rfl ?_
      refine go_iconst 1 19 rfl (by decide) ?_
      refine go_iadd 20 rfl ?_
      refine go_iload 21 rfl 3 rfl ?_
      refine go_iload 22 rfl 5 rfl ?_
      refine go_iadd 23 rfl ?_
      refine go_icmp_ne 46 24 rfl (by decide) (fun c => ?_) (fun c => ?_)
      · replace h := ite_f c h
        refine go_iload 27 rfl 8 rfl ?_
        refine go_iconst 1 28 rfl (by decide) ?_
        refine go_iadd 29 rfl ?_
        refine go_istore 30 rfl (Nat.le_of_ble_eq_true rfl) [(0, _), (1, _), (2, _), (4, _), (5, _), (6, _), (7, _), (8, _), (10, _), (11, _), (12, _)] rfl ?_
        refine go_iload 31 rfl 3 rfl ?_
        refine go_iload 32 rfl 4 rfl ?_
        refine go_iload 33 rfl 5 rfl ?_
        refine go_iload 34 rfl 6 rfl ?_
        refine go_iload 35 rfl 8 rfl ?_
        obtain ⟨r2, c, h⟩ := bd_inv h
        refine go_callS1 _ 36 rfl (e_M_letter c) mk_M_letter cs_M_74 rfl ⟨(Nat.le_of_ble_eq_true rfl), (Nat.le_of_ble_eq_true rfl)⟩ (Nat.le_of_ble_eq_true rfl) rfl ?_
        refine go_istore 37 rfl (Nat.le_of_ble_eq_true rfl) [(0, _), (1, _), (2, _), (4, _), (5, _), (6, _), (7, _), (8, _), (10, _), (11, _), (12, _), (13, _)] rfl ?_
        refine go_iconst 0 38 rfl (by decide) ?_
        refine go_istore 39 rfl (Nat.le_of_ble_eq_true rfl) [(0, _), (1, _), (2, _), (4, _), (5, _), (6, _), (7, _), (8, _), (10, _), (11, _), (12, _), (13, _), (14, _)] rfl ?_
        obtain ⟨r4, c, h⟩ := bd_inv h
        refine w_M_behind_70 _ _ _ _ _ _ _ _ _ _ _ ?_ _ _ c
        refine go_iinc 1 75 rfl 8 rfl (by decide) (Nat.le_of_ble_eq_true rfl) [(0, _), (1, _), (2, _), (4, _), (5, _), (6, _), (7, _), (8, _), (10, _), (11, _), (12, _), (13, _), (14, _)] rfl ?_
        refine go_goto 6 76 rfl (by decide) ?_
        cases h
        refine go_sub [0, 1, 2, 3, 4, 5, 6, 7, 8] rfl ?_
        have g9 := ih _ hc
        exact g9
      · replace h := ite_t c h
        refine go_iload 25 rfl 3 rfl ?_
        refine go_goto 50 26 rfl (by decide) ?_
        refine go_istore 30 rfl (Nat.le_of_ble_eq_true rfl) [(0, _), (1, _), (2, _), (4, _), (5, _), (6, _), (7, _), (8, _), (10, _), (11, _), (12, _)] rfl ?_
        refine go_iload 31 rfl 3 rfl ?_
        refine go_iload 32 rfl 4 rfl ?_
        refine go_iload 33 rfl 5 rfl ?_
        refine go_iload 34 rfl 6 rfl ?_
        refine go_iload 35 rfl 8 rfl ?_
        obtain ⟨r5, c, h⟩ := bd_inv h
        refine go_callS1 _ 36 rfl (e_M_letter c) mk_M_letter cs_M_74 rfl ⟨(Nat.le_of_ble_eq_true rfl), (Nat.le_of_ble_eq_true rfl)⟩ (Nat.le_of_ble_eq_true rfl) rfl ?_
        refine go_istore 37 rfl (Nat.le_of_ble_eq_true rfl) [(0, _), (1, _), (2, _), (4, _), (5, _), (6, _), (7, _), (8, _), (10, _), (11, _), (12, _), (13, _)] rfl ?_
        refine go_iconst 0 38 rfl (by decide) ?_
        refine go_istore 39 rfl (Nat.le_of_ble_eq_true rfl) [(0, _), (1, _), (2, _), (4, _), (5, _), (6, _), (7, _), (8, _), (10, _), (11, _), (12, _), (13, _), (14, _)] rfl ?_
        obtain ⟨r6, c, h⟩ := bd_inv h
        refine w_M_behind_70 _ _ _ _ _ _ _ _ _ _ _ ?_ _ _ c
        refine go_iinc 1 75 rfl 8 rfl (by decide) (Nat.le_of_ble_eq_true rfl) [(0, _), (1, _), (2, _), (4, _), (5, _), (6, _), (7, _), (8, _), (10, _), (11, _), (12, _), (13, _), (14, _)] rfl ?_
        refine go_goto 6 76 rfl (by decide) ?_
        cases h
        refine go_sub [0, 1, 2, 3, 4, 5, 6, 7, 8] rfl ?_
        have g9 := ih _ hc
        exact g9
set_option maxRecDepth 20000 in
theorem e_M_behind {l : Launch} {a1 : Int32} {a2 : Int64} {a4 : Int32} {a5 : Int32} {a6 : Int32} {a7 : Int32} {M : Mm} {r : Int64}  (h : m_M_behind a1 a2 a4 a5 a6 a7 M = some r) : Ev l X_M_behind [vr 8 0, vi a1, vl a2, vi a4, vi a5, vi a6, vi a7] M (fun v M2 => v = (some (vl r)) ∧ M2 = M) := by
  refine Ev.of mk_M_behind [(0, vr 8 0), (1, vi a1), (2, vl a2), (4, vi a4), (5, vi a5), (6, vi a6), (7, vi a7)] (fun _ => rfl) (fun _ => (Nat.le_of_ble_eq_true rfl)) ?_
  unfold m_M_behind at h
  refine go_lconst 0 0 rfl (by decide) ?_
  refine go_lstore 1 rfl (Nat.le_of_ble_eq_true rfl) [(0, _), (1, _), (2, _), (4, _), (5, _), (6, _), (7, _), (8, _)] rfl ?_
  refine go_iconst 0 2 rfl (by decide) ?_
  refine go_istore 3 rfl (Nat.le_of_ble_eq_true rfl) [(0, _), (1, _), (2, _), (4, _), (5, _), (6, _), (7, _), (8, _), (10, _)] rfl ?_
  obtain ⟨r7, c, h⟩ := bd_inv h
  refine w_M_behind_6 _ _ _ _ _ _ _ ?_ _ _ c
  refine go_lload 77 rfl 7 rfl ?_
  cases h
  exact go_lreturn 78 rfl rfl ⟨rfl, rfl⟩
def X_M_allBehind : MX := (⟨"OmegaDeskModel", "allBehind", "(IJIIII)J"⟩, prog_8_method_19_code, 12, some .long, { frames := 2, cells := 0, slots := 0, locals := 58 },
  [(0, .aload_n 0, 1), (1, .iload_n 1, 2), (2, .lload_n 2, 3), (3, .iload 4, 5), (5, .iload 5, 7), (7, .iload 6, 9), (9, .iload 7, 11), (11, .invokevirtual 78, 14), (14, .lstore 8, 16), (16, .lconst 0, 17), (17, .lstore 10, 19), (19, .lload 8, 21), (21, .lload 10, 23), (23, .lcmp, 24), (24, .ifCond .eq 30, 27), (27, .lload 8, 29), (29, .lstore 10, 31), (31, .lload 8, 33), (33, .aload_n 0, 34), (34, .iload_n 1, 35), (35, .lload 8, 37), (37, .iload 4, 39), (39, .iload 5, 41), (41, .iload 6, 43), (43, .iload 7, 45), (45, .invokevirtual 78, 48), (48, .lor, 49), (49, .lstore 8, 51), (51, .goto (-32), 54), (54, .lload 8, 56), (56, .lreturn, 57)])
set_option maxRecDepth 20000 in
theorem mk_M_allBehind : Mk X_M_allBehind := ⟨by unfold TBk; decide +kernel, by decide +kernel, wb_632, ⟨by decide, by decide⟩, rfl, rfl, wb_6⟩
theorem cv_M_78 : CV "OmegaDeskModel" 78 X_M_behind 6 8 := ⟨Or.inl wb_633, ⟨wb_635, ws_M_behind⟩, by decide +kernel, F_M, 12, rfl⟩
def b_M_allBehind_19 (c1 : Int32) (c4 : Int32) (c5 : Int32) (c6 : Int32) (c7 : Int32) (M : Mm) (s : Int64 × Int64) : Option ((Int64 × Int64) ⊕ (Int64 × Int64)) :=
  if (lg_cmp s.1 s.2) = 0 then
    some (Sum.inr (s.1, s.2))
  else
    bd (m_M_behind c1 s.1 c4 c5 c6 c7 M) fun r2 =>
    some (Sum.inl ((s.1 ||| r2), s.1))
def m_M_allBehind (a1 : Int32) (a2 : Int64) (a4 : Int32) (a5 : Int32) (a6 : Int32) (a7 : Int32) (M : Mm) : Option (Int64) :=
  bd (m_M_behind a1 a2 a4 a5 a6 a7 M) fun r1 =>
  bd (lp (b_M_allBehind_19 a1 a4 a5 a6 a7 M) (r1, (0 : Int64))) fun r3 =>
  some r3.1
set_option maxRecDepth 20000 in
theorem w_M_allBehind_19 {l : Launch} {post : Option PV → Mm → Prop} (c1 : Int32) (c2 : Int64) (c4 : Int32) (c5 : Int32) (c6 : Int32) (c7 : Int32) (M : Mm)  {r : Int64 × Int64} (kk : Go l X_M_allBehind post 54 [(0, vr 8 0), (1, vi c1), (2, vl c2), (4, vi c4), (5, vi c5), (6, vi c6), (7, vi c7), (8, vl r.1), (10, vl r.2)] [] M) : ∀ (n : Nat) (s : Int64 × Int64), lpN (b_M_allBehind_19 c1 c4 c5 c6 c7 M) n s = some r → Go l X_M_allBehind post 19 [(0, vr 8 0), (1, vi c1), (2, vl c2), (4, vi c4), (5, vi c5), (6, vi c6), (7, vi c7), (8, vl s.1), (10, vl s.2)] [] M := by
  intro n
  induction n with
  | zero => intro s hc; exact (lpN_0 hc).elim
  | succ n ih =>
    intro s hc
    obtain ⟨q, h, hc⟩ := lpN_inv hc
    unfold b_M_allBehind_19 at h
    refine go_lload 11 rfl 7 rfl ?_
    refine go_lload 12 rfl 8 rfl ?_
    refine go_lcmp 13 rfl ?_
    refine go_if_eq 54 14 rfl (by decide) (fun c => ?_) (fun c => ?_)
    · replace h := ite_t c h
      cases h
      obtain rfl := lpq_r hc
      exact kk
    · replace h := ite_f c h
      refine go_lload 15 rfl 7 rfl ?_
      refine go_lstore 16 rfl (Nat.le_of_ble_eq_true rfl) [(0, _), (1, _), (2, _), (4, _), (5, _), (6, _), (7, _), (8, _), (10, _)] rfl ?_
      refine go_lload 17 rfl 7 rfl ?_
      refine go_aload_n 18 rfl 0 rfl rfl ?_
      refine go_iload_n 19 rfl 1 rfl rfl ?_
      refine go_lload 20 rfl 7 rfl ?_
      refine go_iload 21 rfl 3 rfl ?_
      refine go_iload 22 rfl 4 rfl ?_
      refine go_iload 23 rfl 5 rfl ?_
      refine go_iload 24 rfl 6 rfl ?_
      obtain ⟨r2, c, h⟩ := bd_inv h
      refine go_callV1 _ 25 rfl (e_M_behind c) mk_M_behind (by first | decide | exact ok0 (by omega) | exact ok1 (by omega) | exact ok2 (by omega) | exact ok7 (by omega)) rfl cv_M_78 rfl ⟨(Nat.le_of_ble_eq_true rfl), (Nat.le_of_ble_eq_true rfl)⟩ (Nat.le_of_ble_eq_true rfl) rfl ?_
      refine go_lor 26 rfl ?_
      refine go_lstore 27 rfl (Nat.le_of_ble_eq_true rfl) [(0, _), (1, _), (2, _), (4, _), (5, _), (6, _), (7, _), (8, _), (10, _)] rfl ?_
      refine go_goto 19 28 rfl (by decide) ?_
      cases h
      have g9 := ih _ hc
      exact g9
set_option maxRecDepth 20000 in
theorem e_M_allBehind {l : Launch} {a1 : Int32} {a2 : Int64} {a4 : Int32} {a5 : Int32} {a6 : Int32} {a7 : Int32} {M : Mm} {r : Int64}  (h : m_M_allBehind a1 a2 a4 a5 a6 a7 M = some r) : Ev l X_M_allBehind [vr 8 0, vi a1, vl a2, vi a4, vi a5, vi a6, vi a7] M (fun v M2 => v = (some (vl r)) ∧ M2 = M) := by
  refine Ev.of mk_M_allBehind [(0, vr 8 0), (1, vi a1), (2, vl a2), (4, vi a4), (5, vi a5), (6, vi a6), (7, vi a7)] (fun _ => rfl) (fun _ => (Nat.le_of_ble_eq_true rfl)) ?_
  unfold m_M_allBehind at h
  refine go_aload_n 0 rfl 0 rfl rfl ?_
  refine go_iload_n 1 rfl 1 rfl rfl ?_
  refine go_lload_n 2 rfl 2 rfl rfl ?_
  refine go_iload 3 rfl 3 rfl ?_
  refine go_iload 4 rfl 4 rfl ?_
  refine go_iload 5 rfl 5 rfl ?_
  refine go_iload 6 rfl 6 rfl ?_
  obtain ⟨r1, c, h⟩ := bd_inv h
  refine go_callV1 _ 7 rfl (e_M_behind c) mk_M_behind (by first | decide | exact ok0 (by omega) | exact ok1 (by omega) | exact ok2 (by omega) | exact ok7 (by omega)) rfl cv_M_78 rfl ⟨(Nat.le_of_ble_eq_true rfl), (Nat.le_of_ble_eq_true rfl)⟩ (Nat.le_of_ble_eq_true rfl) rfl ?_
  refine go_lstore 8 rfl (Nat.le_of_ble_eq_true rfl) [(0, _), (1, _), (2, _), (4, _), (5, _), (6, _), (7, _), (8, _)] rfl ?_
  refine go_lconst 0 9 rfl (by decide) ?_
  refine go_lstore 10 rfl (Nat.le_of_ble_eq_true rfl) [(0, _), (1, _), (2, _), (4, _), (5, _), (6, _), (7, _), (8, _), (10, _)] rfl ?_
  obtain ⟨r3, c, h⟩ := bd_inv h
  refine w_M_allBehind_19 _ _ _ _ _ _ _ ?_ _ _ c
  refine go_lload 29 rfl 7 rfl ?_
  cases h
  exact go_lreturn 30 rfl rfl ⟨rfl, rfl⟩
def X_M_lasso : MX := (⟨"OmegaDeskModel", "lasso", "(IIIII)Z"⟩, prog_8_method_20_code, 13, some .boolean, { frames := 3, cells := 0, slots := 0, locals := 89 },
  [(0, .aload_n 0, 1), (1, .getfield 16, 4), (4, .iload_n 1, 5), (5, .iaload, 6), (6, .ifCond .ne 5, 9), (9, .iconst 0, 10), (10, .ireturn, 11), (11, .lconst 1, 12), (12, .aload_n 0, 13), (13, .iload_n 1, 14), (14, .lconst 1, 15), (15, .iload_n 2, 16), (16, .iload_n 3, 17), (17, .iload 4, 19), (19, .iload 5, 21), (21, .invokevirtual 82, 24), (24, .lor, 25), (25, .lstore 6, 27), (27, .iload_n 2, 28), (28, .istore 8, 30), (30, .iload 8, 32), (32, .iload_n 2, 33), (33, .iload 4, 35), (35, .iadd, 36), (36, .if_icmp .ge 100, 39), (39, .iconst 0, 40), (40, .istore 9, 42), (42, .iload 9, 44), (44, .aload_n 0, 45), (45, .getfield 16, 48), (48, .iload_n 1, 49), (49, .iaload, 50), (50, .if_icmp .ge 80, 53), (53, .lconst 1, 54), (54, .iconst 4, 55), (55, .iload 8, 57), (57, .imul, 58), (58, .iload 9, 60), (60, .iadd, 61), (61, .lshl, 62), (62, .lstore 10, 64), (64, .aload_n 0, 65), (65, .getfield 13, 68), (68, .iload_n 1, 69), (69, .iaload, 70), (70, .iload 9, 72), (72, .ishr, 73), (73, .iconst 1, 74), (74, .iand, 75), (75, .iconst 1, 76), (76, .if_icmp .ne 38, 79), (79, .lload 6, 81), (81, .lload 10, 83), (83, .land, 84), (84, .lconst 0, 85), (85, .lcmp, 86), (86, .ifCond .eq 28, 89), (89, .aload_n 0, 90), (90, .iload_n 1, 91), (91, .lload 10, 93), (93, .iload_n 2, 94), (94, .iload_n 3, 95), (95, .iload 4, 97), (97, .iload 5, 99), (99, .invokevirtual 82, 102), (102, .lload 10, 104), (104, .land, 105), (105, .lconst 0, 106), (106, .lcmp, 107), (107, .ifCond .eq 7, 110), (110, .iconst 1, 111), (111, .goto 4, 114), (114, .iconst 0, 115), (115, .istore 12, 117), (117, .iload 12, 119), (119, .ifCond .eq 5, 122), (122, .iconst 1, 123), (123, .ireturn, 124), (124, .iinc 9 1, 127), (127, .goto (-85), 130), (130, .iinc 8 1, 133), (133, .goto (-103), 136), (136, .iconst 0, 137), (137, .ireturn, 138)])
set_option maxRecDepth 20000 in
theorem mk_M_lasso : Mk X_M_lasso := ⟨by unfold TBk; decide +kernel, by decide +kernel, wb_628, ⟨by decide, by decide⟩, rfl, rfl, wb_6⟩
theorem cv_M_82 : CV "OmegaDeskModel" 82 X_M_allBehind 6 8 := ⟨Or.inl wb_629, ⟨wb_631, ws_M_allBehind⟩, by decide +kernel, F_M, 12, rfl⟩
def b_M_lasso_42 (c1 : Int32) (c2 : Int32) (c3 : Int32) (c4 : Int32) (c5 : Int32) (c6 : Int64) (c8 : Int32) (M : Mm) (s : Int32) : Option ((Int32) ⊕ ((Int32) ⊕ (Bool))) :=
  ck (inb c1 (lenI 18)) <|
  if (M.1 (1, 18) c1.toNatClampNeg) ≤ s then
    some (Sum.inr (Sum.inl s))
  else
    bd (some ((1 : Int64) <<< ((((4 : Int32) * c8) + s).toInt64 &&& 63))) fun x2 =>
    ck (inb c1 (lenI 17)) <|
    if (((M.1 (1, 17) c1.toNatClampNeg) >>> (s &&& 31)) &&& (1 : Int32)) = (1 : Int32) then
      if (lg_cmp (c6 &&& x2) (0 : Int64)) = 0 then
        some (Sum.inl (s + 1))
      else
        bd (m_M_allBehind c1 x2 c2 c3 c4 c5 M) fun r3 =>
        if (lg_cmp (r3 &&& x2) (0 : Int64)) = 0 then
          some (Sum.inl (s + 1))
        else
          some (Sum.inr (Sum.inr true))
    else
      some (Sum.inl (s + 1))
def b_M_lasso_30 (c1 : Int32) (c2 : Int32) (c3 : Int32) (c4 : Int32) (c5 : Int32) (c6 : Int64) (M : Mm) (s : Int32) : Option ((Int32) ⊕ ((Int32) ⊕ (Bool))) :=
  if (c2 + c4) ≤ s then
    some (Sum.inr (Sum.inl s))
  else
    bd (lp (b_M_lasso_42 c1 c2 c3 c4 c5 c6 s M) (0 : Int32)) fun r4 =>
    smr r4 (fun v6 => some (Sum.inr (Sum.inr v6))) fun s5 =>
    some (Sum.inl (s + 1))
def m_M_lasso (a1 : Int32) (a2 : Int32) (a3 : Int32) (a4 : Int32) (a5 : Int32) (M : Mm) : Option (Bool) :=
  ck (inb a1 (lenI 18)) <|
  if (M.1 (1, 18) a1.toNatClampNeg) = 0 then
    some false
  else
    bd (m_M_allBehind a1 (1 : Int64) a2 a3 a4 a5 M) fun r1 =>
    bd (lp (b_M_lasso_30 a1 a2 a3 a4 a5 ((1 : Int64) ||| r1) M) a2) fun r7 =>
    smr r7 (fun v9 => some v9) fun s8 =>
    some false
set_option maxRecDepth 20000 in
theorem w_M_lasso_42 {l : Launch} {post : Option PV → Mm → Prop} (c1 : Int32) (c2 : Int32) (c3 : Int32) (c4 : Int32) (c5 : Int32) (c6 : Int64) (c8 : Int32) (M : Mm)  {r : (Int32) ⊕ (Bool)} (kk : ∀ s2, r = Sum.inl s2 → Go l X_M_lasso post 130 [(0, vr 8 0), (1, vi c1), (2, vi c2), (3, vi c3), (4, vi c4), (5, vi c5), (6, vl c6), (8, vi c8), (9, vi s2)] [] M) (kr : ∀ v, r = Sum.inr v → post (some (vi (bI v))) M) : ∀ (n : Nat) (s : Int32), lpN (b_M_lasso_42 c1 c2 c3 c4 c5 c6 c8 M) n s = some r → Go l X_M_lasso post 42 [(0, vr 8 0), (1, vi c1), (2, vi c2), (3, vi c3), (4, vi c4), (5, vi c5), (6, vl c6), (8, vi c8), (9, vi s)] [] M := by
  intro n
  induction n with
  | zero => intro s hc; exact (lpN_0 hc).elim
  | succ n ih =>
    intro s hc
    obtain ⟨q, h, hc⟩ := lpN_inv hc
    unfold b_M_lasso_42 at h
    refine go_iload 27 rfl 8 rfl ?_
    refine go_aload_n 28 rfl 0 rfl rfl ?_
    refine go_getfield 3 _ 29 rfl (by first | decide | exact ok0 (by omega) | exact ok1 (by omega) | exact ok2 (by omega) | exact ok7 (by omega)) rfl fg_M_16 rfl ?_
    refine go_iload_n 30 rfl 1 rfl rfl ?_
    obtain ⟨c, h⟩ := ck_inv h
    refine go_iaload 31 rfl (by first | decide | exact ok0 (by omega) | exact ok1 (by omega) | exact ok2 (by omega) | exact ok7 (by omega)) (inb_vp c) ?_
    refine go_icmp_ge 130 32 rfl (by decide) (fun c => ?_) (fun c => ?_)
    · replace h := ite_t c h
      cases h
      obtain rfl := lpq_r hc
      exact kk _ rfl
    · replace h := ite_f c h
      refine go_lconst 1 33 rfl (by decide) ?_
      refine go_iconst 4 34 rfl (by decide) ?_
      refine go_iload 35 rfl 7 rfl ?_
      refine go_imul 36 rfl ?_
      refine go_iload 37 rfl 8 rfl ?_
      refine go_iadd 38 rfl ?_
      refine go_lshl 39 rfl ?_
      obtain ⟨_, c, h⟩ := bd_inv h
      cases c
      refine go_lstore 40 rfl (Nat.le_of_ble_eq_true rfl) [(0, _), (1, _), (2, _), (3, _), (4, _), (5, _), (6, _), (8, _), (9, _), (10, _)] rfl ?_
      refine go_aload_n 41 rfl 0 rfl rfl ?_
      refine go_getfield 2 _ 42 rfl (by first | decide | exact ok0 (by omega) | exact ok1 (by omega) | exact ok2 (by omega) | exact ok7 (by omega)) rfl fg_M_13 rfl ?_
      refine go_iload_n 43 rfl 1 rfl rfl ?_
      obtain ⟨c, h⟩ := ck_inv h
      refine go_iaload 44 rfl (by first | decide | exact ok0 (by omega) | exact ok1 (by omega) | exact ok2 (by omega) | exact ok7 (by omega)) (inb_vp c) ?_
      refine go_iload 45 rfl 8 rfl ?_
      refine go_ishr 46 rfl ?_
      refine go_iconst 1 47 rfl (by decide) ?_
      refine go_iand 48 rfl ?_
      refine go_iconst 1 49 rfl (by decide) ?_
      refine go_icmp_ne 114 50 rfl (by decide) (fun c => ?_) (fun c => ?_)
      · replace h := ite_f c h
        refine go_iconst 0 72 rfl (by decide) ?_
        refine go_istore 73 rfl (Nat.le_of_ble_eq_true rfl) [(0, _), (1, _), (2, _), (3, _), (4, _), (5, _), (6, _), (8, _), (9, _), (10, _), (12, _)] rfl ?_
        refine go_iload 74 rfl 10 rfl ?_
        refine go_if_eq 124 75 rfl (by decide) (fun _ => ?_) (fun c => absurd c (by decide))
        refine go_iinc 1 78 rfl 8 rfl (by decide) (Nat.le_of_ble_eq_true rfl) [(0, _), (1, _), (2, _), (3, _), (4, _), (5, _), (6, _), (8, _), (9, _), (10, _), (12, _)] rfl ?_
        refine go_goto 42 79 rfl (by decide) ?_
        cases h
        refine go_sub [0, 1, 2, 3, 4, 5, 6, 7, 8] rfl ?_
        have g9 := ih _ hc
        exact g9
      · replace h := ite_t c h
        refine go_lload 51 rfl 6 rfl ?_
        refine go_lload 52 rfl 9 rfl ?_
        refine go_land 53 rfl ?_
        refine go_lconst 0 54 rfl (by decide) ?_
        refine go_lcmp 55 rfl ?_
        refine go_if_eq 114 56 rfl (by decide) (fun c => ?_) (fun c => ?_)
        · replace h := ite_t c h
          refine go_iconst 0 72 rfl (by decide) ?_
          refine go_istore 73 rfl (Nat.le_of_ble_eq_true rfl) [(0, _), (1, _), (2, _), (3, _), (4, _), (5, _), (6, _), (8, _), (9, _), (10, _), (12, _)] rfl ?_
          refine go_iload 74 rfl 10 rfl ?_
          refine go_if_eq 124 75 rfl (by decide) (fun _ => ?_) (fun c => absurd c (by decide))
          refine go_iinc 1 78 rfl 8 rfl (by decide) (Nat.le_of_ble_eq_true rfl) [(0, _), (1, _), (2, _), (3, _), (4, _), (5, _), (6, _), (8, _), (9, _), (10, _), (12, _)] rfl ?_
          refine go_goto 42 79 rfl (by decide) ?_
          cases h
          refine go_sub [0, 1, 2, 3, 4, 5, 6, 7, 8] rfl ?_
          have g9 := ih _ hc
          exact g9
        · replace h := ite_f c h
          refine go_aload_n 57 rfl 0 rfl rfl ?_
          refine go_iload_n 58 rfl 1 rfl rfl ?_
          refine go_lload 59 rfl 9 rfl ?_
          refine go_iload_n 60 rfl 2 rfl rfl ?_
          refine go_iload_n 61 rfl 3 rfl rfl ?_
          refine go_iload 62 rfl 4 rfl ?_
          refine go_iload 63 rfl 5 rfl ?_
          obtain ⟨r3, c, h⟩ := bd_inv h
          refine go_callV1 _ 64 rfl (e_M_allBehind c) mk_M_allBehind (by first | decide | exact ok0 (by omega) | exact ok1 (by omega) | exact ok2 (by omega) | exact ok7 (by omega)) rfl cv_M_82 rfl ⟨(Nat.le_of_ble_eq_true rfl), (Nat.le_of_ble_eq_true rfl)⟩ (Nat.le_of_ble_eq_true rfl) rfl ?_
          refine go_lload 65 rfl 9 rfl ?_
          refine go_land 66 rfl ?_
          refine go_lconst 0 67 rfl (by decide) ?_
          refine go_lcmp 68 rfl ?_
          refine go_if_eq 114 69 rfl (by decide) (fun c => ?_) (fun c => ?_)
          · replace h := ite_t c h
            refine go_iconst 0 72 rfl (by decide) ?_
            refine go_istore 73 rfl (Nat.le_of_ble_eq_true rfl) [(0, _), (1, _), (2, _), (3, _), (4, _), (5, _), (6, _), (8, _), (9, _), (10, _), (12, _)] rfl ?_
            refine go_iload 74 rfl 10 rfl ?_
            refine go_if_eq 124 75 rfl (by decide) (fun _ => ?_) (fun c => absurd c (by decide))
            refine go_iinc 1 78 rfl 8 rfl (by decide) (Nat.le_of_ble_eq_true rfl) [(0, _), (1, _), (2, _), (3, _), (4, _), (5, _), (6, _), (8, _), (9, _), (10, _), (12, _)] rfl ?_
            refine go_goto 42 79 rfl (by decide) ?_
            cases h
            refine go_sub [0, 1, 2, 3, 4, 5, 6, 7, 8] rfl ?_
            have g9 := ih _ hc
            exact g9
          · replace h := ite_f c h
            refine go_iconst 1 70 rfl (by decide) ?_
            refine go_goto 115 71 rfl (by decide) ?_
            refine go_istore 73 rfl (Nat.le_of_ble_eq_true rfl) [(0, _), (1, _), (2, _), (3, _), (4, _), (5, _), (6, _), (8, _), (9, _), (10, _), (12, _)] rfl ?_
            refine go_iload 74 rfl 10 rfl ?_
            refine go_if_eq 124 75 rfl (by decide) (fun c => absurd c (by decide)) (fun _ => ?_)
            refine go_iconst 1 76 rfl (by decide) ?_
            cases h
            obtain rfl := lpq_r hc
            exact go_ireturn 77 rfl rfl rfl (kr _ rfl)
set_option maxRecDepth 20000 in
theorem w_M_lasso_30 {l : Launch} {post : Option PV → Mm → Prop} (c1 : Int32) (c2 : Int32) (c3 : Int32) (c4 : Int32) (c5 : Int32) (c6 : Int64) (M : Mm)  {r : (Int32) ⊕ (Bool)} (kk : ∀ s2, r = Sum.inl s2 → Go l X_M_lasso post 136 [(0, vr 8 0), (1, vi c1), (2, vi c2), (3, vi c3), (4, vi c4), (5, vi c5), (6, vl c6), (8, vi s2)] [] M) (kr : ∀ v, r = Sum.inr v → post (some (vi (bI v))) M) : ∀ (n : Nat) (s : Int32), lpN (b_M_lasso_30 c1 c2 c3 c4 c5 c6 M) n s = some r → Go l X_M_lasso post 30 [(0, vr 8 0), (1, vi c1), (2, vi c2), (3, vi c3), (4, vi c4), (5, vi c5), (6, vl c6), (8, vi s)] [] M := by
  intro n
  induction n with
  | zero => intro s hc; exact (lpN_0 hc).elim
  | succ n ih =>
    intro s hc
    obtain ⟨q, h, hc⟩ := lpN_inv hc
    unfold b_M_lasso_30 at h
    refine go_iload 20 rfl 7 rfl ?_
    refine go_iload_n 21 rfl 2 rfl rfl ?_
    refine go_iload 22 rfl 4 rfl ?_
    refine go_iadd 23 rfl ?_
    refine go_icmp_ge 136 24 rfl (by decide) (fun c => ?_) (fun c => ?_)
    · replace h := ite_t c h
      cases h
      obtain rfl := lpq_r hc
      exact kk _ rfl
    · replace h := ite_f c h
      refine go_iconst 0 25 rfl (by decide) ?_
      refine go_istore 26 rfl (Nat.le_of_ble_eq_true rfl) [(0, _), (1, _), (2, _), (3, _), (4, _), (5, _), (6, _), (8, _), (9, _)] rfl ?_
      obtain ⟨r4, c, h⟩ := bd_inv h
      refine w_M_lasso_42 _ _ _ _ _ _ _ _ (fun s2 e => ?_) (fun v e => ?_) _ _ c
      · subst e
        replace h := smr_l h
        refine go_iinc 1 80 rfl 7 rfl (by decide) (Nat.le_of_ble_eq_true rfl) [(0, _), (1, _), (2, _), (3, _), (4, _), (5, _), (6, _), (8, _), (9, _)] rfl ?_
        refine go_goto 30 81 rfl (by decide) ?_
        cases h
        refine go_sub [0, 1, 2, 3, 4, 5, 6, 7] rfl ?_
        have g9 := ih _ hc
        exact g9
      · subst e
        replace h := smr_r h
        cases h
        obtain rfl := lpq_r hc
        exact kr _ rfl
set_option maxRecDepth 20000 in
theorem e_M_lasso {l : Launch} {a1 : Int32} {a2 : Int32} {a3 : Int32} {a4 : Int32} {a5 : Int32} {M : Mm} {r : Bool}  (h : m_M_lasso a1 a2 a3 a4 a5 M = some r) : Ev l X_M_lasso [vr 8 0, vi a1, vi a2, vi a3, vi a4, vi a5] M (fun v M2 => v = (some (vi (bI r))) ∧ M2 = M) := by
  refine Ev.of mk_M_lasso [(0, vr 8 0), (1, vi a1), (2, vi a2), (3, vi a3), (4, vi a4), (5, vi a5)] (fun _ => rfl) (fun _ => (Nat.le_of_ble_eq_true rfl)) ?_
  unfold m_M_lasso at h
  refine go_aload_n 0 rfl 0 rfl rfl ?_
  refine go_getfield 3 _ 1 rfl (by first | decide | exact ok0 (by omega) | exact ok1 (by omega) | exact ok2 (by omega) | exact ok7 (by omega)) rfl fg_M_16 rfl ?_
  refine go_iload_n 2 rfl 1 rfl rfl ?_
  obtain ⟨c, h⟩ := ck_inv h
  refine go_iaload 3 rfl (by first | decide | exact ok0 (by omega) | exact ok1 (by omega) | exact ok2 (by omega) | exact ok7 (by omega)) (inb_vp c) ?_
  refine go_if_ne 11 4 rfl (by decide) (fun c => ?_) (fun c => ?_)
  · replace h := ite_f c h
    refine go_lconst 1 7 rfl (by decide) ?_
    refine go_aload_n 8 rfl 0 rfl rfl ?_
    refine go_iload_n 9 rfl 1 rfl rfl ?_
    refine go_lconst 1 10 rfl (by decide) ?_
    refine go_iload_n 11 rfl 2 rfl rfl ?_
    refine go_iload_n 12 rfl 3 rfl rfl ?_
    refine go_iload 13 rfl 4 rfl ?_
    refine go_iload 14 rfl 5 rfl ?_
    obtain ⟨r1, c, h⟩ := bd_inv h
    refine go_callV1 _ 15 rfl (e_M_allBehind c) mk_M_allBehind (by first | decide | exact ok0 (by omega) | exact ok1 (by omega) | exact ok2 (by omega) | exact ok7 (by omega)) rfl cv_M_82 rfl ⟨(Nat.le_of_ble_eq_true rfl), (Nat.le_of_ble_eq_true rfl)⟩ (Nat.le_of_ble_eq_true rfl) rfl ?_
    refine go_lor 16 rfl ?_
    refine go_lstore 17 rfl (Nat.le_of_ble_eq_true rfl) [(0, _), (1, _), (2, _), (3, _), (4, _), (5, _), (6, _)] rfl ?_
    refine go_iload_n 18 rfl 2 rfl rfl ?_
    refine go_istore 19 rfl (Nat.le_of_ble_eq_true rfl) [(0, _), (1, _), (2, _), (3, _), (4, _), (5, _), (6, _), (8, _)] rfl ?_
    obtain ⟨r7, c, h⟩ := bd_inv h
    refine w_M_lasso_30 _ _ _ _ _ _ _ (fun s2 e => ?_) (fun v e => ?_) _ _ c
    · subst e
      replace h := smr_l h
      refine go_iconst 0 82 rfl (by decide) ?_
      cases h
      exact go_ireturn 83 rfl rfl rfl ⟨rfl, rfl⟩
    · subst e
      replace h := smr_r h
      cases h
      exact ⟨rfl, rfl⟩
  · replace h := ite_t c h
    refine go_iconst 0 5 rfl (by decide) ?_
    cases h
    exact go_ireturn 6 rfl rfl rfl ⟨rfl, rfl⟩
def X_M_isWord : MX := (⟨"OmegaDeskModel", "isWord", "(III)Z"⟩, prog_8_method_21_code, 3, some .boolean, { frames := 0, cells := 0, slots := 0, locals := 0 },
  [(0, .iload_n 0, 1), (1, .iload_n 2, 2), (2, .if_icmp .lt 23, 5), (5, .iload_n 0, 6), (6, .bipush 8, 8), (8, .if_icmp .gt 17, 11), (11, .iload_n 1, 12), (12, .ifCond .lt 13, 15), (15, .iload_n 1, 16), (16, .iload_n 0, 17), (17, .ishr, 18), (18, .ifCond .ne 7, 21), (21, .iconst 1, 22), (22, .goto 4, 25), (25, .iconst 0, 26), (26, .ireturn, 27)])
set_option maxRecDepth 20000 in
theorem mk_M_isWord : Mk X_M_isWord := ⟨by unfold TBk; decide +kernel, by decide +kernel, wb_624, ⟨by decide, by decide⟩, rfl, rfl, wb_6⟩
def m_M_isWord (a0 : Int32) (a1 : Int32) (a2 : Int32) : Option (Bool) :=
  if a0 < a2 then
    some false
  else
    if (8 : Int32) < a0 then
      some false
    else
      if a1 < 0 then
        some false
      else
        if (a1 >>> (a0 &&& 31)) = 0 then
          some true
        else
          some false
set_option maxRecDepth 20000 in
theorem e_M_isWord {l : Launch} {a0 : Int32} {a1 : Int32} {a2 : Int32} {M : Mm} {r : Bool}  (h : m_M_isWord a0 a1 a2 = some r) : Ev l X_M_isWord [vi a0, vi a1, vi a2] M (fun v M2 => v = (some (vi (bI r))) ∧ M2 = M) := by
  refine Ev.of mk_M_isWord [(0, vi a0), (1, vi a1), (2, vi a2)] (fun _ => rfl) (fun _ => (Nat.le_of_ble_eq_true rfl)) ?_
  unfold m_M_isWord at h
  refine go_iload_n 0 rfl 0 rfl rfl ?_
  refine go_iload_n 1 rfl 2 rfl rfl ?_
  refine go_icmp_lt 25 2 rfl (by decide) (fun c => ?_) (fun c => ?_)
  · replace h := ite_t c h
    refine go_iconst 0 14 rfl (by decide) ?_
    cases h
    exact go_ireturn 15 rfl rfl rfl ⟨rfl, rfl⟩
  · replace h := ite_f c h
    refine go_iload_n 3 rfl 0 rfl rfl ?_
    refine go_bipush 8 4 rfl (by decide) ?_
    refine go_icmp_gt 25 5 rfl (by decide) (fun c => ?_) (fun c => ?_)
    · replace h := ite_t c h
      refine go_iconst 0 14 rfl (by decide) ?_
      cases h
      exact go_ireturn 15 rfl rfl rfl ⟨rfl, rfl⟩
    · replace h := ite_f c h
      refine go_iload_n 6 rfl 1 rfl rfl ?_
      refine go_if_lt 25 7 rfl (by decide) (fun c => ?_) (fun c => ?_)
      · replace h := ite_t c h
        refine go_iconst 0 14 rfl (by decide) ?_
        cases h
        exact go_ireturn 15 rfl rfl rfl ⟨rfl, rfl⟩
      · replace h := ite_f c h
        refine go_iload_n 8 rfl 1 rfl rfl ?_
        refine go_iload_n 9 rfl 0 rfl rfl ?_
        refine go_ishr 10 rfl ?_
        refine go_if_ne 25 11 rfl (by decide) (fun c => ?_) (fun c => ?_)
        · replace h := ite_f c h
          refine go_iconst 0 14 rfl (by decide) ?_
          cases h
          exact go_ireturn 15 rfl rfl rfl ⟨rfl, rfl⟩
        · replace h := ite_t c h
          refine go_iconst 1 12 rfl (by decide) ?_
          refine go_goto 26 13 rfl (by decide) ?_
          cases h
          exact go_ireturn 15 rfl rfl rfl ⟨rfl, rfl⟩
def X_M_takes : MX := (⟨"OmegaDeskModel", "takes", "(IIIII)Z"⟩, prog_8_method_22_code, 6, some .boolean, { frames := 4, cells := 0, slots := 0, locals := 121 },
  [(0, .aload_n 0, 1), (1, .iload_n 1, 2), (2, .bipush 6, 4), (4, .invokestatic 45, 7), (7, .ifCond .ne 23, 10), (10, .iload_n 2, 11), (11, .iload_n 3, 12), (12, .iconst 0, 13), (13, .invokestatic 85, 16), (16, .ifCond .eq 14, 19), (19, .iload 4, 21), (21, .iload 5, 23), (23, .iconst 1, 24), (24, .invokestatic 85, 27), (27, .ifCond .ne 7, 30), (30, .iconst 1, 31), (31, .goto 4, 34), (34, .iconst 0, 35), (35, .putfield 41, 38), (38, .aload_n 0, 39), (39, .getfield 41, 42), (42, .ifCond .ne 21, 45), (45, .aload_n 0, 46), (46, .iload_n 1, 47), (47, .iload_n 2, 48), (48, .iload_n 3, 49), (49, .iload 4, 51), (51, .iload 5, 53), (53, .invokevirtual 89, 56), (56, .ifCond .eq 7, 59), (59, .iconst 1, 60), (60, .goto 4, 63), (63, .iconst 0, 64), (64, .ireturn, 65)])
set_option maxRecDepth 20000 in
theorem mk_M_takes : Mk X_M_takes := ⟨by unfold TBk; decide +kernel, by decide +kernel, wb_621, ⟨by decide, by decide⟩, rfl, rfl, wb_6⟩
theorem cv_M_89 : CV "OmegaDeskModel" 89 X_M_lasso 5 8 := ⟨Or.inl wb_625, ⟨wb_627, ws_M_lasso⟩, by decide +kernel, F_M, 12, rfl⟩
theorem cs_M_85 : CS "OmegaDeskModel" 85 X_M_isWord 3 := ⟨Or.inl wb_622, wb_623, by decide +kernel⟩
def m_M_takes (a1 : Int32) (a2 : Int32) (a3 : Int32) (a4 : Int32) (a5 : Int32) (M : Mm) : Option (Bool × Mm) :=
  bd (m_M_out a1 (6 : Int32)) fun r1 =>
  if (bI r1) = 0 then
    bd (m_M_isWord a2 a3 (0 : Int32)) fun r4 =>
    if (bI r4) = 0 then
      bd (some (uI M (8, 0) 0 (1 : Int32))) fun M5 =>
      if (M5.1 (8, 0) 0) = 0 then
        bd (m_M_lasso a1 a2 a3 a4 a5 M5) fun r6 =>
        if (bI r6) = 0 then
          some (false, M5)
        else
          some (true, M5)
      else
        some (false, M5)
    else
      bd (m_M_isWord a4 a5 (1 : Int32)) fun r7 =>
      if (bI r7) = 0 then
        bd (some (uI M (8, 0) 0 (1 : Int32))) fun M10 =>
        if (M10.1 (8, 0) 0) = 0 then
          bd (m_M_lasso a1 a2 a3 a4 a5 M10) fun r11 =>
          if (bI r11) = 0 then
            some (false, M10)
          else
            some (true, M10)
        else
          some (false, M10)
      else
        bd (some (uI M (8, 0) 0 (0 : Int32))) fun M8 =>
        if (M8.1 (8, 0) 0) = 0 then
          bd (m_M_lasso a1 a2 a3 a4 a5 M8) fun r9 =>
          if (bI r9) = 0 then
            some (false, M8)
          else
            some (true, M8)
        else
          some (false, M8)
  else
    bd (some (uI M (8, 0) 0 (1 : Int32))) fun M2 =>
    if (M2.1 (8, 0) 0) = 0 then
      bd (m_M_lasso a1 a2 a3 a4 a5 M2) fun r3 =>
      if (bI r3) = 0 then
        some (false, M2)
      else
        some (true, M2)
    else
      some (false, M2)
set_option maxRecDepth 20000 in
theorem e_M_takes {l : Launch} {a1 : Int32} {a2 : Int32} {a3 : Int32} {a4 : Int32} {a5 : Int32} {M : Mm} {r : Bool × Mm}  (h : m_M_takes a1 a2 a3 a4 a5 M = some r) : Ev l X_M_takes [vr 8 0, vi a1, vi a2, vi a3, vi a4, vi a5] M (fun v M2 => v = (some (vi (bI r.1))) ∧ M2 = r.2) := by
  refine Ev.of mk_M_takes [(0, vr 8 0), (1, vi a1), (2, vi a2), (3, vi a3), (4, vi a4), (5, vi a5)] (fun _ => rfl) (fun _ => (Nat.le_of_ble_eq_true rfl)) ?_
  unfold m_M_takes at h
  refine go_aload_n 0 rfl 0 rfl rfl ?_
  refine go_iload_n 1 rfl 1 rfl rfl ?_
  refine go_bipush 6 2 rfl (by decide) ?_
  obtain ⟨r1, c, h⟩ := bd_inv h
  refine go_callS1 _ 3 rfl (e_M_out c) mk_M_out cs_M_45 rfl ⟨(Nat.le_of_ble_eq_true rfl), (Nat.le_of_ble_eq_true rfl)⟩ (Nat.le_of_ble_eq_true rfl) rfl ?_
  refine go_if_ne 30 4 rfl (by decide) (fun c => ?_) (fun c => ?_)
  · replace h := ite_f c h
    refine go_iconst 1 15 rfl (by decide) ?_
    refine go_goto 35 16 rfl (by decide) ?_
    refine go_putfield 0 .int 18 rfl (by first | decide | exact ok0 (by omega) | exact ok1 (by omega) | exact ok2 (by omega) | exact ok7 (by omega)) rfl fp_M_41 rfl rfl (Nat.le_of_ble_eq_true rfl) rfl ?_
    obtain ⟨_, c, h⟩ := bd_inv h
    cases c
    refine go_aload_n 19 rfl 0 rfl rfl ?_
    refine go_getfield 0 _ 20 rfl (by first | decide | exact ok0 (by omega) | exact ok1 (by omega) | exact ok2 (by omega) | exact ok7 (by omega)) rfl fg_M_41 rfl ?_
    refine go_if_ne 63 21 rfl (by decide) (fun c => ?_) (fun c => ?_)
    · replace h := ite_f c h
      refine go_iconst 0 32 rfl (by decide) ?_
      cases h
      exact go_ireturn 33 rfl rfl rfl ⟨rfl, rfl⟩
    · replace h := ite_t c h
      refine go_aload_n 22 rfl 0 rfl rfl ?_
      refine go_iload_n 23 rfl 1 rfl rfl ?_
      refine go_iload_n 24 rfl 2 rfl rfl ?_
      refine go_iload_n 25 rfl 3 rfl rfl ?_
      refine go_iload 26 rfl 4 rfl ?_
      refine go_iload 27 rfl 5 rfl ?_
      obtain ⟨r3, c, h⟩ := bd_inv h
      refine go_callV1 _ 28 rfl (e_M_lasso c) mk_M_lasso (by first | decide | exact ok0 (by omega) | exact ok1 (by omega) | exact ok2 (by omega) | exact ok7 (by omega)) rfl cv_M_89 rfl ⟨(Nat.le_of_ble_eq_true rfl), (Nat.le_of_ble_eq_true rfl)⟩ (Nat.le_of_ble_eq_true rfl) rfl ?_
      refine go_if_eq 63 29 rfl (by decide) (fun c => ?_) (fun c => ?_)
      · replace h := ite_t c h
        refine go_iconst 0 32 rfl (by decide) ?_
        cases h
        exact go_ireturn 33 rfl rfl rfl ⟨rfl, rfl⟩
      · replace h := ite_f c h
        refine go_iconst 1 30 rfl (by decide) ?_
        refine go_goto 64 31 rfl (by decide) ?_
        cases h
        exact go_ireturn 33 rfl rfl rfl ⟨rfl, rfl⟩
  · replace h := ite_t c h
    refine go_iload_n 5 rfl 2 rfl rfl ?_
    refine go_iload_n 6 rfl 3 rfl rfl ?_
    refine go_iconst 0 7 rfl (by decide) ?_
    obtain ⟨r4, c, h⟩ := bd_inv h
    refine go_callS1 _ 8 rfl (e_M_isWord c) mk_M_isWord cs_M_85 rfl ⟨(Nat.le_of_ble_eq_true rfl), (Nat.le_of_ble_eq_true rfl)⟩ (Nat.le_of_ble_eq_true rfl) rfl ?_
    refine go_if_eq 30 9 rfl (by decide) (fun c => ?_) (fun c => ?_)
    · replace h := ite_t c h
      refine go_iconst 1 15 rfl (by decide) ?_
      refine go_goto 35 16 rfl (by decide) ?_
      refine go_putfield 0 .int 18 rfl (by first | decide | exact ok0 (by omega) | exact ok1 (by omega) | exact ok2 (by omega) | exact ok7 (by omega)) rfl fp_M_41 rfl rfl (Nat.le_of_ble_eq_true rfl) rfl ?_
      obtain ⟨_, c, h⟩ := bd_inv h
      cases c
      refine go_aload_n 19 rfl 0 rfl rfl ?_
      refine go_getfield 0 _ 20 rfl (by first | decide | exact ok0 (by omega) | exact ok1 (by omega) | exact ok2 (by omega) | exact ok7 (by omega)) rfl fg_M_41 rfl ?_
      refine go_if_ne 63 21 rfl (by decide) (fun c => ?_) (fun c => ?_)
      · replace h := ite_f c h
        refine go_iconst 0 32 rfl (by decide) ?_
        cases h
        exact go_ireturn 33 rfl rfl rfl ⟨rfl, rfl⟩
      · replace h := ite_t c h
        refine go_aload_n 22 rfl 0 rfl rfl ?_
        refine go_iload_n 23 rfl 1 rfl rfl ?_
        refine go_iload_n 24 rfl 2 rfl rfl ?_
        refine go_iload_n 25 rfl 3 rfl rfl ?_
        refine go_iload 26 rfl 4 rfl ?_
        refine go_iload 27 rfl 5 rfl ?_
        obtain ⟨r6, c, h⟩ := bd_inv h
        refine go_callV1 _ 28 rfl (e_M_lasso c) mk_M_lasso (by first | decide | exact ok0 (by omega) | exact ok1 (by omega) | exact ok2 (by omega) | exact ok7 (by omega)) rfl cv_M_89 rfl ⟨(Nat.le_of_ble_eq_true rfl), (Nat.le_of_ble_eq_true rfl)⟩ (Nat.le_of_ble_eq_true rfl) rfl ?_
        refine go_if_eq 63 29 rfl (by decide) (fun c => ?_) (fun c => ?_)
        · replace h := ite_t c h
          refine go_iconst 0 32 rfl (by decide) ?_
          cases h
          exact go_ireturn 33 rfl rfl rfl ⟨rfl, rfl⟩
        · replace h := ite_f c h
          refine go_iconst 1 30 rfl (by decide) ?_
          refine go_goto 64 31 rfl (by decide) ?_
          cases h
          exact go_ireturn 33 rfl rfl rfl ⟨rfl, rfl⟩
    · replace h := ite_f c h
      refine go_iload 10 rfl 4 rfl ?_
      refine go_iload 11 rfl 5 rfl ?_
      refine go_iconst 1 12 rfl (by decide) ?_
      obtain ⟨r7, c, h⟩ := bd_inv h
      refine go_callS1 _ 13 rfl (e_M_isWord c) mk_M_isWord cs_M_85 rfl ⟨(Nat.le_of_ble_eq_true rfl), (Nat.le_of_ble_eq_true rfl)⟩ (Nat.le_of_ble_eq_true rfl) rfl ?_
      refine go_if_ne 34 14 rfl (by decide) (fun c => ?_) (fun c => ?_)
      · replace h := ite_f c h
        refine go_iconst 0 17 rfl (by decide) ?_
        refine go_putfield 0 .int 18 rfl (by first | decide | exact ok0 (by omega) | exact ok1 (by omega) | exact ok2 (by omega) | exact ok7 (by omega)) rfl fp_M_41 rfl rfl (Nat.le_of_ble_eq_true rfl) rfl ?_
        obtain ⟨_, c, h⟩ := bd_inv h
        cases c
        refine go_aload_n 19 rfl 0 rfl rfl ?_
        refine go_getfield 0 _ 20 rfl (by first | decide | exact ok0 (by omega) | exact ok1 (by omega) | exact ok2 (by omega) | exact ok7 (by omega)) rfl fg_M_41 rfl ?_
        refine go_if_ne 63 21 rfl (by decide) (fun c => ?_) (fun c => ?_)
        · replace h := ite_f c h
          refine go_iconst 0 32 rfl (by decide) ?_
          cases h
          exact go_ireturn 33 rfl rfl rfl ⟨rfl, rfl⟩
        · replace h := ite_t c h
          refine go_aload_n 22 rfl 0 rfl rfl ?_
          refine go_iload_n 23 rfl 1 rfl rfl ?_
          refine go_iload_n 24 rfl 2 rfl rfl ?_
          refine go_iload_n 25 rfl 3 rfl rfl ?_
          refine go_iload 26 rfl 4 rfl ?_
          refine go_iload 27 rfl 5 rfl ?_
          obtain ⟨r9, c, h⟩ := bd_inv h
          refine go_callV1 _ 28 rfl (e_M_lasso c) mk_M_lasso (by first | decide | exact ok0 (by omega) | exact ok1 (by omega) | exact ok2 (by omega) | exact ok7 (by omega)) rfl cv_M_89 rfl ⟨(Nat.le_of_ble_eq_true rfl), (Nat.le_of_ble_eq_true rfl)⟩ (Nat.le_of_ble_eq_true rfl) rfl ?_
          refine go_if_eq 63 29 rfl (by decide) (fun c => ?_) (fun c => ?_)
          · replace h := ite_t c h
            refine go_iconst 0 32 rfl (by decide) ?_
            cases h
            exact go_ireturn 33 rfl rfl rfl ⟨rfl, rfl⟩
          · replace h := ite_f c h
            refine go_iconst 1 30 rfl (by decide) ?_
            refine go_goto 64 31 rfl (by decide) ?_
            cases h
            exact go_ireturn 33 rfl rfl rfl ⟨rfl, rfl⟩
      · replace h := ite_t c h
        refine go_iconst 1 15 rfl (by decide) ?_
        refine go_goto 35 16 rfl (by decide) ?_
        refine go_putfield 0 .int 18 rfl (by first | decide | exact ok0 (by omega) | exact ok1 (by omega) | exact ok2 (by omega) | exact ok7 (by omega)) rfl fp_M_41 rfl rfl (Nat.le_of_ble_eq_true rfl) rfl ?_
        obtain ⟨_, c, h⟩ := bd_inv h
        cases c
        refine go_aload_n 19 rfl 0 rfl rfl ?_
        refine go_getfield 0 _ 20 rfl (by first | decide | exact ok0 (by omega) | exact ok1 (by omega) | exact ok2 (by omega) | exact ok7 (by omega)) rfl fg_M_41 rfl ?_
        refine go_if_ne 63 21 rfl (by decide) (fun c => ?_) (fun c => ?_)
        · replace h := ite_f c h
          refine go_iconst 0 32 rfl (by decide) ?_
          cases h
          exact go_ireturn 33 rfl rfl rfl ⟨rfl, rfl⟩
        · replace h := ite_t c h
          refine go_aload_n 22 rfl 0 rfl rfl ?_
          refine go_iload_n 23 rfl 1 rfl rfl ?_
          refine go_iload_n 24 rfl 2 rfl rfl ?_
          refine go_iload_n 25 rfl 3 rfl rfl ?_
          refine go_iload 26 rfl 4 rfl ?_
          refine go_iload 27 rfl 5 rfl ?_
          obtain ⟨r11, c, h⟩ := bd_inv h
          refine go_callV1 _ 28 rfl (e_M_lasso c) mk_M_lasso (by first | decide | exact ok0 (by omega) | exact ok1 (by omega) | exact ok2 (by omega) | exact ok7 (by omega)) rfl cv_M_89 rfl ⟨(Nat.le_of_ble_eq_true rfl), (Nat.le_of_ble_eq_true rfl)⟩ (Nat.le_of_ble_eq_true rfl) rfl ?_
          refine go_if_eq 63 29 rfl (by decide) (fun c => ?_) (fun c => ?_)
          · replace h := ite_t c h
            refine go_iconst 0 32 rfl (by decide) ?_
            cases h
            exact go_ireturn 33 rfl rfl rfl ⟨rfl, rfl⟩
          · replace h := ite_f c h
            refine go_iconst 1 30 rfl (by decide) ?_
            refine go_goto 64 31 rfl (by decide) ?_
            cases h
            exact go_ireturn 33 rfl rfl rfl ⟨rfl, rfl⟩
