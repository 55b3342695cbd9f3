def X_M_ahead : MX := (⟨"OmegaDeskModel", "ahead", "(II)I"⟩, prog_8_method_12_code, 6, some .int, { frames := 0, cells := 0, slots := 0, locals := 0 },
  [(0, .aload_n 0, 1), (1, .getfield 7, 4), (4, .bipush 8, 6), (6, .iload_n 1, 7), (7, .imul, 8), (8, .iload_n 2, 9), (9, .iadd, 10), (10, .iaload, 11), (11, .aload_n 0, 12), (12, .getfield 7, 15), (15, .bipush 8, 17), (17, .iload_n 1, 18), (18, .imul, 19), (19, .iconst 4, 20), (20, .iadd, 21), (21, .iload_n 2, 22), (22, .iadd, 23), (23, .iaload, 24), (24, .ior, 25), (25, .istore_n 3, 26), (26, .iconst 0, 27), (27, .istore 4, 29), (29, .iload 4, 31), (31, .iconst 4, 32), (32, .if_icmp .ge 73, 35), (35, .iconst 0, 36), (36, .istore 5, 38), (38, .iload 5, 40), (40, .aload_n 0, 41), (41, .getfield 16, 44), (44, .iload_n 1, 45), (45, .iaload, 46), (46, .if_icmp .ge 53, 49), (49, .iload_n 3, 50), (50, .iload 5, 52), (52, .ishr, 53), (53, .iconst 1, 54), (54, .iand, 55), (55, .iconst 1, 56), (56, .if_icmp .ne 35, 59), (59, .iload_n 3, 60), (60, .aload_n 0, 61), (61, .getfield 7, 64), (64, .bipush 8, 66), (66, .iload_n 1, 67), (67, .imul, 68), (68, .iload 5, 70), (70, .iadd, 71), (71, .iaload, 72), (72, .ior, 73), (73, .aload_n 0, 74), (74, .getfield 7, 77), (77, .bipush 8, 79), (79, .iload_n 1, 80), (80, .imul, 81), (81, .iconst 4, 82), (82, .iadd, 83), (83, .iload 5, 85), (85, .iadd, 86), (86, .iaload, 87), (87, .ior, 88), (88, .goto 4, 91), (91, .iload_n 3, 92), (92, .istore_n 3, 93), (93, .iinc 5 1, 96), (96, .goto (-58), 99), (99, .iinc 4 1, 102), (102, .goto (-73), 105), (105, .iload_n 3, 106), (106, .ireturn, 107)])
set_option maxRecDepth 20000 in
theorem mk_M_ahead : Mk X_M_ahead := ⟨by unfold TBk; decide +kernel, by decide +kernel, wb_613, ⟨by decide, by decide⟩, rfl, rfl, wb_6⟩
def b_M_ahead_38 (c1 : Int32) (M : Mm) (s : Int32 × Int32) : Option ((Int32 × Int32) ⊕ (Int32 × Int32)) :=
  ck (inb c1 (lenI 18)) <|
  if (M.1 (1, 18) c1.toNatClampNeg) ≤ s.2 then
    some (Sum.inr (s.1, s.2))
  else
    if ((s.1 >>> (s.2 &&& 31)) &&& (1 : Int32)) = (1 : Int32) then
      ck (inb (((8 : Int32) * c1) + s.2) (lenI 16)) <|
      ck (inb ((((8 : Int32) * c1) + (4 : Int32)) + s.2) (lenI 16)) <|
      bd (some ((s.1 ||| (M.1 (1, 16) (((8 : Int32) * c1) + s.2).toNatClampNeg)) ||| (M.1 (1, 16) ((((8 : Int32) * c1) + (4 : Int32)) + s.2).toNatClampNeg))) fun x2 =>
      some (Sum.inl (x2, (s.2 + 1)))
    else
      some (Sum.inl (s.1, (s.2 + 1)))
def b_M_ahead_29 (c1 : Int32) (M : Mm) (s : Int32 × Int32) : Option ((Int32 × Int32) ⊕ (Int32 × Int32)) :=
  if (4 : Int32) ≤ s.2 then
    some (Sum.inr (s.1, s.2))
  else
    bd (lp (b_M_ahead_38 c1 M) (s.1, (0 : Int32))) fun r3 =>
    some (Sum.inl (r3.1, (s.2 + 1)))
def m_M_ahead (a1 : Int32) (a2 : Int32) (M : Mm) : Option (Int32) :=
  ck (inb (((8 : Int32) * a1) + a2) (lenI 16)) <|
  ck (inb ((((8 : Int32) * a1) + (4 : Int32)) + a2) (lenI 16)) <|
  bd (some ((M.1 (1, 16) (((8 : Int32) * a1) + a2).toNatClampNeg) ||| (M.1 (1, 16) ((((8 : Int32) * a1) + (4 : Int32)) + a2).toNatClampNeg))) fun x1 =>
  bd (lp (b_M_ahead_29 a1 M) (x1, (0 : Int32))) fun r4 =>
  some r4.1
set_option maxRecDepth 20000 in
theorem w_M_ahead_38 {l : Launch} {post : Option PV → Mm → Prop} (c1 : Int32) (c2 : Int32) (c4 : Int32) (M : Mm)  {r : Int32 × Int32} (kk : Go l X_M_ahead post 99 [(0, vr 8 0), (1, vi c1), (2, vi c2), (3, vi r.1), (4, vi c4), (5, vi r.2)] [] M) : ∀ (n : Nat) (s : Int32 × Int32), lpN (b_M_ahead_38 c1 M) n s = some r → Go l X_M_ahead post 38 [(0, vr 8 0), (1, vi c1), (2, vi c2), (3, vi s.1), (4, vi c4), (5, vi s.2)] [] M := by
  intro n
  induction n with
  | zero => intro s hc; exact (lpN_0 hc).elim
  | succ n ih =>
    intro s hc
    obtain ⟨q, h, hc⟩ := lpN_inv hc
    unfold b_M_ahead_38 at h
    refine go_iload 27 rfl 5 rfl ?_
    refine go_aload_n 28 rfl 0 rfl rfl ?_
    refine go_getfield 3 _ 29 rfl (by first | decide | exact ok0 (by omega) | exact ok1 (by omega) | exact ok2 (by omega) | exact ok7 (by omega)) rfl fg_M_16 rfl ?_
    refine go_iload_n 30 rfl 1 rfl rfl ?_
    obtain ⟨c, h⟩ := ck_inv h
    refine go_iaload 31 rfl (by first | decide | exact ok0 (by omega) | exact ok1 (by omega) | exact ok2 (by omega) | exact ok7 (by omega)) (inb_vp c) ?_
    refine go_icmp_ge 99 32 rfl (by decide) (fun c => ?_) (fun c => ?_)
    · replace h := ite_t c h
      cases h
      obtain rfl := lpq_r hc
      exact kk
    · replace h := ite_f c h
      refine go_iload_n 33 rfl 3 rfl rfl ?_
      refine go_iload 34 rfl 5 rfl ?_
      refine go_ishr 35 rfl ?_
      refine go_iconst 1 36 rfl (by decide) ?_
      refine go_iand 37 rfl ?_
      refine go_iconst 1 38 rfl (by decide) ?_
      refine go_icmp_ne 91 39 rfl (by decide) (fun c => ?_) (fun c => ?_)
      · replace h := ite_f c h
        refine go_iload_n 62 rfl 3 rfl rfl ?_
        refine go_istore_n 63 rfl rfl (Nat.le_of_ble_eq_true rfl) [(0, _), (1, _), (2, _), (3, _), (4, _), (5, _)] rfl ?_
        refine go_iinc 1 64 rfl 5 rfl (by decide) (Nat.le_of_ble_eq_true rfl) [(0, _), (1, _), (2, _), (3, _), (4, _), (5, _)] rfl ?_
        refine go_goto 38 65 rfl (by decide) ?_
        cases h
        have g9 := ih _ hc
        exact g9
      · replace h := ite_t c h
        refine go_iload_n 40 rfl 3 rfl rfl ?_
        refine go_aload_n 41 rfl 0 rfl rfl ?_
        refine go_getfield 1 _ 42 rfl (by first | decide | exact ok0 (by omega) | exact ok1 (by omega) | exact ok2 (by omega) | exact ok7 (by omega)) rfl fg_M_7 rfl ?_
        refine go_bipush 8 43 rfl (by decide) ?_
        refine go_iload_n 44 rfl 1 rfl rfl ?_
        refine go_imul 45 rfl ?_
        refine go_iload 46 rfl 5 rfl ?_
        refine go_iadd 47 rfl ?_
        obtain ⟨c, h⟩ := ck_inv h
        refine go_iaload 48 rfl (by first | decide | exact ok0 (by omega) | exact ok1 (by omega) | exact ok2 (by omega) | exact ok7 (by omega)) (inb_vp c) ?_
        refine go_ior 49 rfl ?_
        refine go_aload_n 50 rfl 0 rfl rfl ?_
        refine go_getfield 1 _ 51 rfl (by first | decide | exact ok0 (by omega) | exact ok1 (by omega) | exact ok2 (by omega) | exact ok7 (by omega)) rfl fg_M_7 rfl ?_
        refine go_bipush 8 52 rfl (by decide) ?_
        refine go_iload_n 53 rfl 1 rfl rfl ?_
        refine go_imul 54 rfl ?_
        refine go_iconst 4 55 rfl (by decide) ?_
        refine go_iadd 56 rfl ?_
        refine go_iload 57 rfl 5 rfl ?_
        refine go_iadd 58 rfl ?_
        obtain ⟨c, h⟩ := ck_inv h
        refine go_iaload 59 rfl (by first | decide | exact ok0 (by omega) | exact ok1 (by omega) | exact ok2 (by omega) | exact ok7 (by omega)) (inb_vp c) ?_
        refine go_ior 60 rfl ?_
        refine go_goto 92 61 rfl (by decide) ?_
        obtain ⟨_, c, h⟩ := bd_inv h
        cases c
        refine go_istore_n 63 rfl rfl (Nat.le_of_ble_eq_true rfl) [(0, _), (1, _), (2, _), (3, _), (4, _), (5, _)] rfl ?_
        refine go_iinc 1 64 rfl 5 rfl (by decide) (Nat.le_of_ble_eq_true rfl) [(0, _), (1, _), (2, _), (3, _), (4, _), (5, _)] rfl ?_
        refine go_goto 38 65 rfl (by decide) ?_
        cases h
        have g9 := ih _ hc
        exact g9
set_option maxRecDepth 20000 in
theorem w_M_ahead_29 {l : Launch} {post : Option PV → Mm → Prop} (c1 : Int32) (c2 : Int32) (M : Mm)  {r : Int32 × Int32} (kk : Go l X_M_ahead post 105 [(0, vr 8 0), (1, vi c1), (2, vi c2), (3, vi r.1), (4, vi r.2)] [] M) : ∀ (n : Nat) (s : Int32 × Int32), lpN (b_M_ahead_29 c1 M) n s = some r → Go l X_M_ahead post 29 [(0, vr 8 0), (1, vi c1), (2, vi c2), (3, vi s.1), (4, vi s.2)] [] M := by
  intro n
  induction n with
  | zero => intro s hc; exact (lpN_0 hc).elim
  | succ n ih =>
    intro s hc
    obtain ⟨q, h, hc⟩ := lpN_inv hc
    unfold b_M_ahead_29 at h
    refine go_iload 22 rfl 4 rfl ?_
    refine go_iconst 4 23 rfl (by decide) ?_
    refine go_icmp_ge 105 24 rfl (by decide) (fun c => ?_) (fun c => ?_)
    · replace h := ite_t c h
      cases h
      obtain rfl := lpq_r hc
      exact kk
    · replace h := ite_f c h
      refine go_iconst 0 25 rfl (by decide) ?_
      refine go_istore 26 rfl (Nat.le_of_ble_eq_true rfl) [(0, _), (1, _), (2, _), (3, _), (4, _), (5, _)] rfl ?_
      obtain ⟨r3, c, h⟩ := bd_inv h
      refine w_M_ahead_38 _ _ _ _ ?_ _ _ c
      refine go_iinc 1 66 rfl 4 rfl (by decide) (Nat.le_of_ble_eq_true rfl) [(0, _), (1, _), (2, _), (3, _), (4, _), (5, _)] rfl ?_
      refine go_goto 29 67 rfl (by decide) ?_
      cases h
      refine go_sub [0, 1, 2, 3, 4] rfl ?_
      have g9 := ih _ hc
      exact g9
set_option maxRecDepth 20000 in
theorem e_M_ahead {l : Launch} {a1 : Int32} {a2 : Int32} {M : Mm} {r : Int32}  (h : m_M_ahead a1 a2 M = some r) : Ev l X_M_ahead [vr 8 0, vi a1, vi a2] M (fun v M2 => v = (some (vi r)) ∧ M2 = M) := by
  refine Ev.of mk_M_ahead [(0, vr 8 0), (1, vi a1), (2, vi a2)] (fun _ => rfl) (fun _ => (Nat.le_of_ble_eq_true rfl)) ?_
  unfold m_M_ahead at h
  refine go_aload_n 0 rfl 0 rfl rfl ?_
  refine go_getfield 1 _ 1 rfl (by first | decide | exact ok0 (by omega) | exact ok1 (by omega) | exact ok2 (by omega) | exact ok7 (by omega)) rfl fg_M_7 rfl ?_
  refine go_bipush 8 2 rfl (by decide) ?_
  refine go_iload_n 3 rfl 1 rfl rfl ?_
  refine go_imul 4 rfl ?_
  refine go_iload_n 5 rfl 2 rfl rfl ?_
  refine go_iadd 6 rfl ?_
  obtain ⟨c, h⟩ := ck_inv h
  refine go_iaload 7 rfl (by first | decide | exact ok0 (by omega) | exact ok1 (by omega) | exact ok2 (by omega) | exact ok7 (by omega)) (inb_vp c) ?_
  refine go_aload_n 8 rfl 0 rfl rfl ?_
  refine go_getfield 1 _ 9 rfl (by first | decide | exact ok0 (by omega) | exact ok1 (by omega) | exact ok2 (by omega) | exact ok7 (by omega)) rfl fg_M_7 rfl ?_
  refine go_bipush 8 10 rfl (by decide) ?_
  refine go_iload_n 11 rfl 1 rfl rfl ?_
  refine go_imul 12 rfl ?_
  refine go_iconst 4 13 rfl (by decide) ?_
  refine go_iadd 14 rfl ?_
  refine go_iload_n 15 rfl 2 rfl rfl ?_
  refine go_iadd 16 rfl ?_
  obtain ⟨c, h⟩ := ck_inv h
  refine go_iaload 17 rfl (by first | decide | exact ok0 (by omega) | exact ok1 (by omega) | exact ok2 (by omega) | exact ok7 (by omega)) (inb_vp c) ?_
  refine go_ior 18 rfl ?_
  obtain ⟨_, c, h⟩ := bd_inv h
  cases c
  refine go_istore_n 19 rfl rfl (Nat.le_of_ble_eq_true rfl) [(0, _), (1, _), (2, _), (3, _)] rfl ?_
  refine go_iconst 0 20 rfl (by decide) ?_
  refine go_istore 21 rfl (Nat.le_of_ble_eq_true rfl) [(0, _), (1, _), (2, _), (3, _), (4, _)] rfl ?_
  obtain ⟨r4, c, h⟩ := bd_inv h
  refine w_M_ahead_29 _ _ _ ?_ _ _ c
  refine go_iload_n 68 rfl 3 rfl rfl ?_
  cases h
  exact go_ireturn 69 rfl rfl rfl ⟨rfl, rfl⟩
def X_M_alive : MX := (⟨"OmegaDeskModel", "alive", "(II)Z"⟩, prog_8_method_13_code, 7, some .boolean, { frames := 1, cells := 0, slots := 0, locals := 25 },
  [(0, .iload_n 2, 1), (1, .ifCond .eq 17, 4), (4, .aload_n 0, 5), (5, .iload_n 1, 6), (6, .iconst 0, 7), (7, .invokevirtual 61, 10), (10, .iload_n 2, 11), (11, .ishr, 12), (12, .iconst 1, 13), (13, .iand, 14), (14, .iconst 1, 15), (15, .if_icmp .ne 7, 18), (18, .iconst 1, 19), (19, .goto 4, 22), (22, .iconst 0, 23), (23, .istore_n 3, 24), (24, .iconst 0, 25), (25, .istore 4, 27), (27, .iconst 0, 28), (28, .istore 5, 30), (30, .iload 5, 32), (32, .aload_n 0, 33), (33, .getfield 16, 36), (36, .iload_n 1, 37), (37, .iaload, 38), (38, .if_icmp .ge 85, 41), (41, .aload_n 0, 42), (42, .getfield 13, 45), (45, .iload_n 1, 46), (46, .iaload, 47), (47, .iload 5, 49), (49, .ishr, 50), (50, .iconst 1, 51), (51, .iand, 52), (52, .iconst 1, 53), (53, .if_icmp .ne 23, 56), (56, .aload_n 0, 57), (57, .iload_n 1, 58), (58, .iload 5, 60), (60, .invokevirtual 61, 63), (63, .iload 5, 65), (65, .ishr, 66), (66, .iconst 1, 67), (67, .iand, 68), (68, .iconst 1, 69), (69, .if_icmp .ne 7, 72), (72, .iconst 1, 73), (73, .goto 4, 76), (76, .iconst 0, 77), (77, .istore 6, 79), (79, .iload 4, 81), (81, .ifCond .ne 29, 84), (84, .iload 6, 86), (86, .ifCond .eq 28, 89), (89, .iload_n 2, 90), (90, .iload 5, 92), (92, .if_icmp .eq 18, 95), (95, .aload_n 0, 96), (96, .iload_n 1, 97), (97, .iload_n 2, 98), (98, .invokevirtual 61, 101), (101, .iload 5, 103), (103, .ishr, 104), (104, .iconst 1, 105), (105, .iand, 106), (106, .iconst 1, 107), (107, .if_icmp .ne 7, 110), (110, .iconst 1, 111), (111, .goto 4, 114), (114, .iconst 0, 115), (115, .istore 4, 117), (117, .iinc 5 1, 120), (120, .goto (-90), 123), (123, .iload_n 3, 124), (124, .ifCond .eq 12, 127), (127, .iload 4, 129), (129, .ifCond .eq 7, 132), (132, .iconst 1, 133), (133, .goto 4, 136), (136, .iconst 0, 137), (137, .ireturn, 138)])
set_option maxRecDepth 20000 in
theorem mk_M_alive : Mk X_M_alive := ⟨by unfold TBk; decide +kernel, by decide +kernel, wb_609, ⟨by decide, by decide⟩, rfl, rfl, wb_6⟩
theorem cv_M_61 : CV "OmegaDeskModel" 61 X_M_ahead 2 8 := ⟨Or.inl wb_610, ⟨wb_612, ws_M_ahead⟩, by decide +kernel, F_M, 12, rfl⟩
def b_M_alive_30 (c1 : Int32) (c2 : Int32) (M : Mm) (s : Int32 × Int32) : Option ((Int32 × Int32) ⊕ (Int32 × Int32)) :=
  ck (inb c1 (lenI 18)) <|
  if (M.1 (1, 18) c1.toNatClampNeg) ≤ s.2 then
    some (Sum.inr (s.1, s.2))
  else
    ck (inb c1 (lenI 17)) <|
    if (((M.1 (1, 17) c1.toNatClampNeg) >>> (s.2 &&& 31)) &&& (1 : Int32)) = (1 : Int32) then
      bd (m_M_ahead c1 s.2 M) fun r1 =>
      if ((r1 >>> (s.2 &&& 31)) &&& (1 : Int32)) = (1 : Int32) then
        if s.1 = 0 then
          if c2 = s.2 then
            some (Sum.inl ((1 : Int32), (s.2 + 1)))
          else
            bd (m_M_ahead c1 c2 M) fun r2 =>
            if ((r2 >>> (s.2 &&& 31)) &&& (1 : Int32)) = (1 : Int32) then
              some (Sum.inl ((1 : Int32), (s.2 + 1)))
            else
              some (Sum.inl ((0 : Int32), (s.2 + 1)))
        else
          some (Sum.inl ((1 : Int32), (s.2 + 1)))
      else
        if s.1 = 0 then
          some (Sum.inl ((0 : Int32), (s.2 + 1)))
        else
          some (Sum.inl ((1 : Int32), (s.2 + 1)))
    else
      if s.1 = 0 then
        some (Sum.inl ((0 : Int32), (s.2 + 1)))
      else
        some (Sum.inl ((1 : Int32), (s.2 + 1)))
def m_M_alive (a1 : Int32) (a2 : Int32) (M : Mm) : Option (Bool) :=
  if a2 = 0 then
    bd (lp (b_M_alive_30 a1 a2 M) ((0 : Int32), (0 : Int32))) fun r3 =>
    if r3.1 = 0 then
      some false
    else
      some true
  else
    bd (m_M_ahead a1 (0 : Int32) M) fun r4 =>
    if ((r4 >>> (a2 &&& 31)) &&& (1 : Int32)) = (1 : Int32) then
      bd (lp (b_M_alive_30 a1 a2 M) ((0 : Int32), (0 : Int32))) fun r6 =>
      if r6.1 = 0 then
        some false
      else
        some true
    else
      bd (lp (b_M_alive_30 a1 a2 M) ((0 : Int32), (0 : Int32))) fun r5 =>
      some false
set_option maxRecDepth 20000 in
theorem w_M_alive_30 {l : Launch} {post : Option PV → Mm → Prop} (c1 : Int32) (c2 : Int32) (c3 : Int32) (M : Mm)  {r : Int32 × Int32} (kk : Go l X_M_alive post 123 [(0, vr 8 0), (1, vi c1), (2, vi c2), (3, vi c3), (4, vi r.1), (5, vi r.2)] [] M) : ∀ (n : Nat) (s : Int32 × Int32), lpN (b_M_alive_30 c1 c2 M) n s = some r → Go l X_M_alive post 30 [(0, vr 8 0), (1, vi c1), (2, vi c2), (3, vi c3), (4, vi s.1), (5, vi s.2)] [] M := by
  intro n
  induction n with
  | zero => intro s hc; exact (lpN_0 hc).elim
  | succ n ih =>
    intro s hc
    obtain ⟨q, h, hc⟩ := lpN_inv hc
    unfold b_M_alive_30 at h
    refine go_iload 20 rfl 5 rfl ?_
    refine go_aload_n 21 rfl 0 rfl rfl ?_
    refine go_getfield 3 _ 22 rfl (by first | decide | exact ok0 (by omega) | exact ok1 (by omega) | exact ok2 (by omega) | exact ok7 (by omega)) rfl fg_M_16 rfl ?_
    refine go_iload_n 23 rfl 1 rfl rfl ?_
    obtain ⟨c, h⟩ := ck_inv h
    refine go_iaload 24 rfl (by first | decide | exact ok0 (by omega) | exact ok1 (by omega) | exact ok2 (by omega) | exact ok7 (by omega)) (inb_vp c) ?_
    refine go_icmp_ge 123 25 rfl (by decide) (fun c => ?_) (fun c => ?_)
    · replace h := ite_t c h
      cases h
      obtain rfl := lpq_r hc
      exact kk
    · replace h := ite_f c h
      refine go_aload_n 26 rfl 0 rfl rfl ?_
      refine go_getfield 2 _ 27 rfl (by first | decide | exact ok0 (by omega) | exact ok1 (by omega) | exact ok2 (by omega) | exact ok7 (by omega)) rfl fg_M_13 rfl ?_
      refine go_iload_n 28 rfl 1 rfl rfl ?_
      obtain ⟨c, h⟩ := ck_inv h
      refine go_iaload 29 rfl (by first | decide | exact ok0 (by omega) | exact ok1 (by omega) | exact ok2 (by omega) | exact ok7 (by omega)) (inb_vp c) ?_
      refine go_iload 30 rfl 5 rfl ?_
      refine go_ishr 31 rfl ?_
      refine go_iconst 1 32 rfl (by decide) ?_
      refine go_iand 33 rfl ?_
      refine go_iconst 1 34 rfl (by decide) ?_
      refine go_icmp_ne 76 35 rfl (by decide) (fun c => ?_) (fun c => ?_)
      · replace h := ite_f c h
        refine go_iconst 0 48 rfl (by decide) ?_
        refine go_istore 49 rfl (Nat.le_of_ble_eq_true rfl) [(0, _), (1, _), (2, _), (3, _), (4, _), (5, _), (6, _)] rfl ?_
        refine go_iload 50 rfl 4 rfl ?_
        refine go_if_ne 110 51 rfl (by decide) (fun c => ?_) (fun c => ?_)
        · replace h := ite_f c h
          refine go_iconst 1 67 rfl (by decide) ?_
          refine go_goto 115 68 rfl (by decide) ?_
          refine go_istore 70 rfl (Nat.le_of_ble_eq_true rfl) [(0, _), (1, _), (2, _), (3, _), (4, _), (5, _), (6, _)] rfl ?_
          refine go_iinc 1 71 rfl 5 rfl (by decide) (Nat.le_of_ble_eq_true rfl) [(0, _), (1, _), (2, _), (3, _), (4, _), (5, _), (6, _)] rfl ?_
          refine go_goto 30 72 rfl (by decide) ?_
          cases h
          refine go_sub [0, 1, 2, 3, 4, 5] rfl ?_
          have g9 := ih _ hc
          exact g9
        · replace h := ite_t c h
          refine go_iload 52 rfl 6 rfl ?_
          refine go_if_eq 114 53 rfl (by decide) (fun _ => ?_) (fun c => absurd c (by decide))
          refine go_iconst 0 69 rfl (by decide) ?_
          refine go_istore 70 rfl (Nat.le_of_ble_eq_true rfl) [(0, _), (1, _), (2, _), (3, _), (4, _), (5, _), (6, _)] rfl ?_
          refine go_iinc 1 71 rfl 5 rfl (by decide) (Nat.le_of_ble_eq_true rfl) [(0, _), (1, _), (2, _), (3, _), (4, _), (5, _), (6, _)] rfl ?_
          refine go_goto 30 72 rfl (by decide) ?_
          cases h
          refine go_sub [0, 1, 2, 3, 4, 5] rfl ?_
          have g9 := ih _ hc
          exact g9
      · replace h := ite_t c h
        refine go_aload_n 36 rfl 0 rfl rfl ?_
        refine go_iload_n 37 rfl 1 rfl rfl ?_
        refine go_iload 38 rfl 5 rfl ?_
        obtain ⟨r1, c, h⟩ := bd_inv h
        refine go_callV1 _ 39 rfl (e_M_ahead c) mk_M_ahead (by first | decide | exact ok0 (by omega) | exact ok1 (by omega) | exact ok2 (by omega) | exact ok7 (by omega)) rfl cv_M_61 rfl ⟨(Nat.le_of_ble_eq_true rfl), (Nat.le_of_ble_eq_true rfl)⟩ (Nat.le_of_ble_eq_true rfl) rfl ?_
        refine go_iload 40 rfl 5 rfl ?_
        refine go_ishr 41 rfl ?_
        refine go_iconst 1 42 rfl (by decide) ?_
        refine go_iand 43 rfl ?_
        refine go_iconst 1 44 rfl (by decide) ?_
        refine go_icmp_ne 76 45 rfl (by decide) (fun c => ?_) (fun c => ?_)
        · replace h := ite_f c h
          refine go_iconst 0 48 rfl (by decide) ?_
          refine go_istore 49 rfl (Nat.le_of_ble_eq_true rfl) [(0, _), (1, _), (2, _), (3, _), (4, _), (5, _), (6, _)] rfl ?_
          refine go_iload 50 rfl 4 rfl ?_
          refine go_if_ne 110 51 rfl (by decide) (fun c => ?_) (fun c => ?_)
          · replace h := ite_f c h
            refine go_iconst 1 67 rfl (by decide) ?_
            refine go_goto 115 68 rfl (by decide) ?_
            refine go_istore 70 rfl (Nat.le_of_ble_eq_true rfl) [(0, _), (1, _), (2, _), (3, _), (4, _), (5, _), (6, _)] rfl ?_
            refine go_iinc 1 71 rfl 5 rfl (by decide) (Nat.le_of_ble_eq_true rfl) [(0, _), (1, _), (2, _), (3, _), (4, _), (5, _), (6, _)] rfl ?_
            refine go_goto 30 72 rfl (by decide) ?_
            cases h
            refine go_sub [0, 1, 2, 3, 4, 5] rfl ?_
            have g9 := ih _ hc
            exact g9
          · replace h := ite_t c h
            refine go_iload 52 rfl 6 rfl ?_
            refine go_if_eq 114 53 rfl (by decide) (fun _ => ?_) (fun c => absurd c (by decide))
            refine go_iconst 0 69 rfl (by decide) ?_
            refine go_istore 70 rfl (Nat.le_of_ble_eq_true rfl) [(0, _), (1, _), (2, _), (3, _), (4, _), (5, _), (6, _)] rfl ?_
            refine go_iinc 1 71 rfl 5 rfl (by decide) (Nat.le_of_ble_eq_true rfl) [(0, _), (1, _), (2, _), (3, _), (4, _), (5, _), (6, _)] rfl ?_
            refine go_goto 30 72 rfl (by decide) ?_
            cases h
            refine go_sub [0, 1, 2, 3, 4, 5] rfl ?_
            have g9 := ih _ hc
            exact g9
        · replace h := ite_t c h
          refine go_iconst 1 46 rfl (by decide) ?_
          refine go_goto 77 47 rfl (by decide) ?_
          refine go_istore 49 rfl (Nat.le_of_ble_eq_true rfl) [(0, _), (1, _), (2, _), (3, _), (4, _), (5, _), (6, _)] rfl ?_
          refine go_iload 50 rfl 4 rfl ?_
          refine go_if_ne 110 51 rfl (by decide) (fun c => ?_) (fun c => ?_)
          · replace h := ite_f c h
            refine go_iconst 1 67 rfl (by decide) ?_
            refine go_goto 115 68 rfl (by decide) ?_
            refine go_istore 70 rfl (Nat.le_of_ble_eq_true rfl) [(0, _), (1, _), (2, _), (3, _), (4, _), (5, _), (6, _)] rfl ?_
            refine go_iinc 1 71 rfl 5 rfl (by decide) (Nat.le_of_ble_eq_true rfl) [(0, _), (1, _), (2, _), (3, _), (4, _), (5, _), (6, _)] rfl ?_
            refine go_goto 30 72 rfl (by decide) ?_
            cases h
            refine go_sub [0, 1, 2, 3, 4, 5] rfl ?_
            have g9 := ih _ hc
            exact g9
          · replace h := ite_t c h
            refine go_iload 52 rfl 6 rfl ?_
            refine go_if_eq 114 53 rfl (by decide) (fun c => absurd c (by decide)) (fun _ => ?_)
            refine go_iload_n 54 rfl 2 rfl rfl ?_
            refine go_iload 55 rfl 5 rfl ?_
            refine go_icmp_eq 110 56 rfl (by decide) (fun c => ?_) (fun c => ?_)
            · replace h := ite_t c h
              refine go_iconst 1 67 rfl (by decide) ?_
              refine go_goto 115 68 rfl (by decide) ?_
              refine go_istore 70 rfl (Nat.le_of_ble_eq_true rfl) [(0, _), (1, _), (2, _), (3, _), (4, _), (5, _), (6, _)] rfl ?_
              refine go_iinc 1 71 rfl 5 rfl (by decide) (Nat.le_of_ble_eq_true rfl) [(0, _), (1, _), (2, _), (3, _), (4, _), (5, _), (6, _)] rfl ?_
              refine go_goto 30 72 rfl (by decide) ?_
              cases h
              refine go_sub [0, 1, 2, 3, 4, 5] rfl ?_
              have g9 := ih _ hc
              exact g9
            · replace h := ite_f c h
              refine go_aload_n 57 rfl 0 rfl rfl ?_
              refine go_iload_n 58 rfl 1 rfl rfl ?_
              refine go_iload_n 59 rfl 2 rfl rfl ?_
              obtain ⟨r2, c, h⟩ := bd_inv h
              refine go_callV1 _ 60 rfl (e_M_ahead c) mk_M_ahead (by first | decide | exact ok0 (by omega) | exact ok1 (by omega) | exact ok2 (by omega) | exact ok7 (by omega)) rfl cv_M_61 rfl ⟨(Nat.le_of_ble_eq_true rfl), (Nat.le_of_ble_eq_true rfl)⟩ (Nat.le_of_ble_eq_true rfl) rfl ?_
              refine go_iload 61 rfl 5 rfl ?_
              refine go_ishr 62 rfl ?_
              refine go_iconst 1 63 rfl (by decide) ?_
              refine go_iand 64 rfl ?_
              refine go_iconst 1 65 rfl (by decide) ?_
              refine go_icmp_ne 114 66 rfl (by decide) (fun c => ?_) (fun c => ?_)
              · replace h := ite_f c h
                refine go_iconst 0 69 rfl (by decide) ?_
                refine go_istore 70 rfl (Nat.le_of_ble_eq_true rfl) [(0, _), (1, _), (2, _), (3, _), (4, _), (5, _), (6, _)] rfl ?_
                refine go_iinc 1 71 rfl 5 rfl (by decide) (Nat.le_of_ble_eq_true rfl) [(0, _), (1, _), (2, _), (3, _), (4, _), (5, _), (6, _)] rfl ?_
                refine go_goto 30 72 rfl (by decide) ?_
                cases h
                refine go_sub [0, 1, 2, 3, 4, 5] rfl ?_
                have g9 := ih _ hc
                exact g9
              · replace h := ite_t c h
                refine go_iconst 1 67 rfl (by decide) ?_
                refine go_goto 115 68 rfl (by decide) ?_
                refine go_istore 70 rfl (Nat.le_of_ble_eq_true rfl) [(0, _), (1, _), (2, _), (3, _), (4, _), (5, _), (6, _)] rfl ?_
                refine go_iinc 1 71 rfl 5 rfl (by decide) (Nat.le_of_ble_eq_true rfl) [(0, _), (1, _), (2, _), (3, _), (4, _), (5, _), (6, _)] rfl ?_
                refine go_goto 30 72 rfl (by decide) ?_
                cases h
                refine go_sub [0, 1, 2, 3, 4, 5] rfl ?_
                have g9 := ih _ hc
                exact g9
set_option maxRecDepth 20000 in
theorem e_M_alive {l : Launch} {a1 : Int32} {a2 : Int32} {M : Mm} {r : Bool}  (h : m_M_alive a1 a2 M = some r) : Ev l X_M_alive [vr 8 0, vi a1, vi a2] M (fun v M2 => v = (some (vi (bI r))) ∧ M2 = M) := by
  refine Ev.of mk_M_alive [(0, vr 8 0), (1, vi a1), (2, vi a2)] (fun _ => rfl) (fun _ => (Nat.le_of_ble_eq_true rfl)) ?_
  unfold m_M_alive at h
  refine go_iload_n 0 rfl 2 rfl rfl ?_
  refine go_if_eq 18 1 rfl (by decide) (fun c => ?_) (fun c => ?_)
  · replace h := ite_t c h
    refine go_iconst 1 12 rfl (by decide) ?_
    refine go_goto 23 13 rfl (by decide) ?_
    refine go_istore_n 15 rfl rfl (Nat.le_of_ble_eq_true rfl) [(0, _), (1, _), (2, _), (3, _)] rfl ?_
    refine go_iconst 0 16 rfl (by decide) ?_
    refine go_istore 17 rfl (Nat.le_of_ble_eq_true rfl) [(0, _), (1, _), (2, _), (3, _), (4, _)] rfl ?_
    refine go_iconst 0 18 rfl (by decide) ?_
    refine go_istore 19 rfl (Nat.le_of_ble_eq_true rfl) [(0, _), (1, _), (2, _), (3, _), (4, _), (5, _)] rfl ?_
    obtain ⟨r3, c, h⟩ := bd_inv h
    refine w_M_alive_30 _ _ _ _ ?_ _ _ c
    refine go_iload_n 73 rfl 3 rfl rfl ?_
    refine go_if_eq 136 74 rfl (by decide) (fun c => absurd c (by decide)) (fun _ => ?_)
    refine go_iload 75 rfl 4 rfl ?_
    refine go_if_eq 136 76 rfl (by decide) (fun c => ?_) (fun c => ?_)
    · replace h := ite_t c h
      refine go_iconst 0 79 rfl (by decide) ?_
      cases h
      exact go_ireturn 80 rfl rfl rfl ⟨rfl, rfl⟩
    · replace h := ite_f c h
      refine go_iconst 1 77 rfl (by decide) ?_
      refine go_goto 137 78 rfl (by decide) ?_
      cases h
      exact go_ireturn 80 rfl rfl rfl ⟨rfl, rfl⟩
  · replace h := ite_f c h
    refine go_aload_n 2 rfl 0 rfl rfl ?_
    refine go_iload_n 3 rfl 1 rfl rfl ?_
    refine go_iconst 0 4 rfl (by decide) ?_
    obtain ⟨r4, c, h⟩ := bd_inv h
    refine go_callV1 _ 5 rfl (e_M_ahead c) mk_M_ahead (by first | decide | exact ok0 (by omega) | exact ok1 (by omega) | exact ok2 (by omega) | exact ok7 (by omega)) rfl cv_M_61 rfl ⟨(Nat.le_of_ble_eq_true rfl), (Nat.le_of_ble_eq_true rfl)⟩ (Nat.le_of_ble_eq_true rfl) rfl ?_
    refine go_iload_n 6 rfl 2 rfl rfl ?_
    refine go_ishr 7 rfl ?_
    refine go_iconst 1 8 rfl (by decide) ?_
    refine go_iand 9 rfl ?_
    refine go_iconst 1 10 rfl (by decide) ?_
    refine go_icmp_ne 22 11 rfl (by decide) (fun c => ?_) (fun c => ?_)
    · replace h := ite_f c h
      refine go_iconst 0 14 rfl (by decide) ?_
      refine go_istore_n 15 rfl rfl (Nat.le_of_ble_eq_true rfl) [(0, _), (1, _), (2, _), (3, _)] rfl ?_
      refine go_iconst 0 16 rfl (by decide) ?_
      refine go_istore 17 rfl (Nat.le_of_ble_eq_true rfl) [(0, _), (1, _), (2, _), (3, _), (4, _)] rfl ?_
      refine go_iconst 0 18 rfl (by decide) ?_
      refine go_istore 19 rfl (Nat.le_of_ble_eq_true rfl) [(0, _), (1, _), (2, _), (3, _), (4, _), (5, _)] rfl ?_
      obtain ⟨r5, c, h⟩ := bd_inv h
      refine w_M_alive_30 _ _ _ _ ?_ _ _ c
      refine go_iload_n 73 rfl 3 rfl rfl ?_
      refine go_if_eq 136 74 rfl (by decide) (fun _ => ?_) (fun c => absurd c (by decide))
      refine go_iconst 0 79 rfl (by decide) ?_
      cases h
      exact go_ireturn 80 rfl rfl rfl ⟨rfl, rfl⟩
    · replace h := ite_t c h
      refine go_iconst 1 12 rfl (by decide) ?_
      refine go_goto 23 13 rfl (by decide) ?_
      refine go_istore_n 15 rfl rfl (Nat.le_of_ble_eq_true rfl) [(0, _), (1, _), (2, _), (3, _)] rfl ?_
      refine go_iconst 0 16 rfl (by decide) ?_
      refine go_istore 17 rfl (Nat.le_of_ble_eq_true rfl) [(0, _), (1, _), (2, _), (3, _), (4, _)] rfl ?_
      refine go_iconst 0 18 rfl (by decide) ?_
      refine go_istore 19 rfl (Nat.le_of_ble_eq_true rfl) [(0, _), (1, _), (2, _), (3, _), (4, _), (5, _)] rfl ?_
      obtain ⟨r6, c, h⟩ := bd_inv h
      refine w_M_alive_30 _ _ _ _ ?_ _ _ c
      refine go_iload_n 73 rfl 3 rfl rfl ?_
      refine go_if_eq 136 74 rfl (by decide) (fun c => absurd c (by decide)) (fun _ => ?_)
      refine go_iload 75 rfl 4 rfl ?_
      refine go_if_eq 136 76 rfl (by decide) (fun c => ?_) (fun c => ?_)
      · replace h := ite_t c h
        refine go_iconst 0 79 rfl (by decide) ?_
        cases h
        exact go_ireturn 80 rfl rfl rfl ⟨rfl, rfl⟩
      · replace h := ite_f c h
        refine go_iconst 1 77 rfl (by decide) ?_
        refine go_goto 137 78 rfl (by decide) ?_
        cases h
        exact go_ireturn 80 rfl rfl rfl ⟨rfl, rfl⟩
def X_M_living : MX := (⟨"OmegaDeskModel", "living", "(I)I"⟩, prog_8_method_14_code, 4, some .int, { frames := 2, cells := 0, slots := 0, locals := 51 },
  [(0, .iconst 0, 1), (1, .istore_n 2, 2), (2, .iconst 0, 3), (3, .istore_n 3, 4), (4, .iload_n 3, 5), (5, .aload_n 0, 6), (6, .getfield 16, 9), (9, .iload_n 1, 10), (10, .iaload, 11), (11, .if_icmp .ge 28, 14), (14, .aload_n 0, 15), (15, .iload_n 1, 16), (16, .iload_n 3, 17), (17, .invokevirtual 65, 20), (20, .ifCond .eq 11, 23), (23, .iload_n 2, 24), (24, .iconst 1, 25), (25, .iload_n 3, 26), (26, .ishl, 27), (27, .ior, 28), (28, .goto 4, 31), (31, .iload_n 2, 32), (32, .istore_n 2, 33), (33, .iinc 3 1, 36), (36, .goto (-32), 39), (39, .iload_n 2, 40), (40, .iconst 1, 41), (41, .iand, 42), (42, .iconst 1, 43), (43, .if_icmp .ne 7, 46), (46, .iload_n 2, 47), (47, .goto 4, 50), (50, .iconst 0, 51), (51, .ireturn, 52)])
set_option maxRecDepth 20000 in
theorem mk_M_living : Mk X_M_living := ⟨by unfold TBk; decide +kernel, by decide +kernel, wb_605, ⟨by decide, by decide⟩, rfl, rfl, wb_6⟩
theorem cv_M_65 : CV "OmegaDeskModel" 65 X_M_alive 2 8 := ⟨Or.inl wb_606, ⟨wb_608, ws_M_alive⟩, by decide +kernel, F_M, 12, rfl⟩
def b_M_living_4 (c1 : Int32) (M : Mm) (s : Int32 × Int32) : Option ((Int32 × Int32) ⊕ (Int32 × Int32)) :=
  ck (inb c1 (lenI 18)) <|
  if (M.1 (1, 18) c1.toNatClampNeg) ≤ s.2 then
    some (Sum.inr (s.1, s.2))
  else
    bd (m_M_alive c1 s.2 M) fun r1 =>
    if (bI r1) = 0 then
      some (Sum.inl (s.1, (s.2 + 1)))
    else
      some (Sum.inl ((s.1 ||| ((1 : Int32) <<< (s.2 &&& 31))), (s.2 + 1)))
def m_M_living (a1 : Int32) (M : Mm) : Option (Int32) :=
  bd (lp (b_M_living_4 a1 M) ((0 : Int32), (0 : Int32))) fun r2 =>
  if (r2.1 &&& (1 : Int32)) = (1 : Int32) then
    some r2.1
  else
    some (0 : Int32)
set_option maxRecDepth 20000 in
theorem w_M_living_4 {l : Launch} {post : Option PV → Mm → Prop} (c1 : Int32) (M : Mm)  {r : Int32 × Int32} (kk : Go l X_M_living post 39 [(0, vr 8 0), (1, vi c1), (2, vi r.1), (3, vi r.2)] [] M) : ∀ (n : Nat) (s : Int32 × Int32), lpN (b_M_living_4 c1 M) n s = some r → Go l X_M_living post 4 [(0, vr 8 0), (1, vi c1), (2, vi s.1), (3, vi s.2)] [] M := by
  intro n
  induction n with
  | zero => intro s hc; exact (lpN_0 hc).elim
  | succ n ih =>
    intro s hc
    obtain ⟨q, h, hc⟩ := lpN_inv hc
    unfold b_M_living_4 at h
    refine go_iload_n 4 rfl 3 rfl rfl ?_
    refine go_aload_n 5 rfl 0 rfl rfl ?_
    refine go_getfield 3 _ 6 rfl (by first | decide | exact ok0 (by omega) | exact ok1 (by omega) | exact ok2 (by omega) | exact ok7 (by omega)) rfl fg_M_16 rfl ?_
    refine go_iload_n 7 rfl 1 rfl rfl ?_
    obtain ⟨c, h⟩ := ck_inv h
    refine go_iaload 8 rfl (by first | decide | exact ok0 (by omega) | exact ok1 (by omega) | exact ok2 (by omega) | exact ok7 (by omega)) (inb_vp c) ?_
    refine go_icmp_ge 39 9 rfl (by decide) (fun c => ?_) (fun c => ?_)
    · replace h := ite_t c h
      cases h
      obtain rfl := lpq_r hc
      exact kk
    · replace h := ite_f c h
      refine go_aload_n 10 rfl 0 rfl rfl ?_
      refine go_iload_n 11 rfl 1 rfl rfl ?_
      refine go_iload_n 12 rfl 3 rfl rfl ?_
      obtain ⟨r1, c, h⟩ := bd_inv h
      refine go_callV1 _ 13 rfl (e_M_alive c) mk_M_alive (by first | decide | exact ok0 (by omega) | exact ok1 (by omega) | exact ok2 (by omega) | exact ok7 (by omega)) rfl cv_M_65 rfl ⟨(Nat.le_of_ble_eq_true rfl), (Nat.le_of_ble_eq_true rfl)⟩ (Nat.le_of_ble_eq_true rfl) rfl ?_
      refine go_if_eq 31 14 rfl (by decide) (fun c => ?_) (fun c => ?_)
      · replace h := ite_t c h
        refine go_iload_n 21 rfl 2 rfl rfl ?_
        refine go_istore_n 22 rfl rfl (Nat.le_of_ble_eq_true rfl) [(0, _), (1, _), (2, _), (3, _)] rfl ?_
        refine go_iinc 1 23 rfl 3 rfl (by decide) (Nat.le_of_ble_eq_true rfl) [(0, _), (1, _), (2, _), (3, _)] rfl ?_
        refine go_goto 4 24 rfl (by decide) ?_
        cases h
        have g9 := ih _ hc
        exact g9
      · replace h := ite_f c h
        refine go_iload_n 15 rfl 2 rfl rfl ?_
        refine go_iconst 1 16 rfl (by decide) ?_
        refine go_iload_n 17 rfl 3 rfl rfl ?_
        refine go_ishl 18 rfl ?_
        refine go_ior 19 rfl ?_
        refine go_goto 32 20 rfl (by decide) ?_
        refine go_istore_n 22 rfl rfl (Nat.le_of_ble_eq_true rfl) [(0, _), (1, _), (2, _), (3, _)] rfl ?_
        refine go_iinc 1 23 rfl 3 rfl (by decide) (Nat.le_of_ble_eq_true rfl) [(0, _), (1, _), (2, _), (3, _)] rfl ?_
        refine go_goto 4 24 rfl (by decide) ?_
        cases h
        have g9 := ih _ hc
        exact g9
set_option maxRecDepth 20000 in
theorem e_M_living {l : Launch} {a1 : Int32} {M : Mm} {r : Int32}  (h : m_M_living a1 M = some r) : Ev l X_M_living [vr 8 0, vi a1] M (fun v M2 => v = (some (vi r)) ∧ M2 = M) := by
  refine Ev.of mk_M_living [(0, vr 8 0), (1, vi a1)] (fun _ => rfl) (fun _ => (Nat.le_of_ble_eq_true rfl)) ?_
  unfold m_M_living at h
  refine go_iconst 0 0 rfl (by decide) ?_
  refine go_istore_n 1 rfl rfl (Nat.le_of_ble_eq_true rfl) [(0, _), (1, _), (2, _)] rfl ?_
  refine go_iconst 0 2 rfl (by decide) ?_
  refine go_istore_n 3 rfl rfl (Nat.le_of_ble_eq_true rfl) [(0, _), (1, _), (2, _), (3, _)] rfl ?_
  obtain ⟨r2, c, h⟩ := bd_inv h
  refine w_M_living_4 _ _ ?_ _ _ c
  refine go_iload_n 25 rfl 2 rfl rfl ?_
  refine go_iconst 1 26 rfl (by decide) ?_
  refine go_iand 27 rfl ?_
  refine go_iconst 1 28 rfl (by decide) ?_
  refine go_icmp_ne 50 29 rfl (by decide) (fun c => ?_) (fun c => ?_)
  · replace h := ite_f c h
    refine go_iconst 0 32 rfl (by decide) ?_
    cases h
    exact go_ireturn 33 rfl rfl rfl ⟨rfl, rfl⟩
  · replace h := ite_t c h
    refine go_iload_n 30 rfl 2 rfl rfl ?_
    refine go_goto 51 31 rfl (by decide) ?_
    cases h
    exact go_ireturn 33 rfl rfl rfl ⟨rfl, rfl⟩
def X_M_trim : MX := (⟨"OmegaDeskModel", "trim", "(I)I"⟩, prog_8_method_15_code, 11, some .int, { frames := 3, cells := 0, slots := 0, locals := 74 },
  [(0, .aload_n 0, 1), (1, .iload_n 1, 2), (2, .bipush 6, 4), (4, .invokestatic 45, 7), (7, .ifCond .eq 7, 10), (10, .iconst 1, 11), (11, .goto 4, 14), (14, .iconst 0, 15), (15, .putfield 41, 18), (18, .aload_n 0, 19), (19, .getfield 41, 22), (22, .ifCond .le 5, 25), (25, .iconst 0, 26), (26, .ireturn, 27), (27, .aload_n 0, 28), (28, .iload_n 1, 29), (29, .invokevirtual 68, 32), (32, .istore_n 2, 33), (33, .iconst 0, 34), (34, .istore_n 3, 35), (35, .iconst 0, 36), (36, .istore 4, 38), (38, .iconst 0, 39), (39, .istore 5, 41), (41, .iload 5, 43), (43, .aload_n 0, 44), (44, .getfield 16, 47), (47, .iload_n 1, 48), (48, .iaload, 49), (49, .if_icmp .ge 141, 52), (52, .iload_n 2, 53), (53, .iload 5, 55), (55, .ishr, 56), (56, .iconst 1, 57), (57, .iand, 58), (58, .iconst 1, 59), (59, .if_icmp .ne 125, 62), (62, .iconst 0, 63), (63, .istore 6, 65), (65, .iload 6, 67), (67, .iconst 2, 68), (68, .if_icmp .ge 95, 71), (71, .aload_n 0, 72), (72, .getfield 7, 75), (75, .bipush 8, 77), (77, .iload_n 1, 78), (78, .imul, 79), (79, .iconst 4, 80), (80, .iload 6, 82), (82, .imul, 83), (83, .iadd, 84), (84, .iload 5, 86), (86, .iadd, 87), (87, .iaload, 88), (88, .istore 7, 90), (90, .iconst 0, 91), (91, .istore 8, 93), (93, .iconst 0, 94), (94, .istore 9, 96), (96, .iconst 0, 97), (97, .istore 10, 99), (99, .iload 10, 101), (101, .iconst 4, 102), (102, .if_icmp .ge 37, 105), (105, .iload_n 2, 106), (106, .iload 10, 108), (108, .ishr, 109), (109, .iconst 1, 110), (110, .iand, 111), (111, .iconst 1, 112), (112, .if_icmp .ne 21, 115), (115, .iload 8, 117), (117, .iload 7, 119), (119, .iload 10, 121), (121, .ishr, 122), (122, .iconst 1, 123), (123, .iand, 124), (124, .iload 9, 126), (126, .ishl, 127), (127, .ior, 128), (128, .istore 8, 130), (130, .iinc 9 1, 133), (133, .iinc 10 1, 136), (136, .goto (-37), 139), (139, .aload_n 0, 140), (140, .getfield 7, 143), (143, .bipush 8, 145), (145, .iload_n 1, 146), (146, .imul, 147), (147, .iconst 4, 148), (148, .iload 6, 150), (150, .imul, 151), (151, .iadd, 152), (152, .iload_n 3, 153), (153, .iadd, 154), (154, .iload 8, 156), (156, .iastore, 157), (157, .iinc 6 1, 160), (160, .goto (-95), 163), (163, .iload 4, 165), (165, .aload_n 0, 166), (166, .getfield 13, 169), (169, .iload_n 1, 170), (170, .iaload, 171), (171, .iload 5, 173), (173, .ishr, 174), (174, .iconst 1, 175), (175, .iand, 176), (176, .iload_n 3, 177), (177, .ishl, 178), (178, .ior, 179), (179, .istore 4, 181), (181, .iinc 3 1, 184), (184, .iinc 5 1, 187), (187, .goto (-146), 190), (190, .aload_n 0, 191), (191, .getfield 16, 194), (194, .iload_n 1, 195), (195, .iload_n 3, 196), (196, .iastore, 197), (197, .aload_n 0, 198), (198, .getfield 13, 201), (201, .iload_n 1, 202), (202, .iload 4, 204), (204, .iastore, 205), (205, .iload_n 3, 206), (206, .ireturn, 207)])
set_option maxRecDepth 20000 in
theorem mk_M_trim : Mk X_M_trim := ⟨by unfold TBk; decide +kernel, by decide +kernel, wb_601, ⟨by decide, by decide⟩, rfl, rfl, wb_6⟩
theorem cv_M_68 : CV "OmegaDeskModel" 68 X_M_living 1 8 := ⟨Or.inl wb_602, ⟨wb_604, ws_M_living⟩, by decide +kernel, F_M, 12, rfl⟩
def b_M_trim_99 (c2 : Int32) (c7 : Int32) (s : Int32 × Int32 × Int32) : Option ((Int32 × Int32 × Int32) ⊕ (Int32 × Int32 × Int32)) :=
  if (4 : Int32) ≤ s.2.2 then
    some (Sum.inr (s.1, s.2.1, s.2.2))
  else
    if ((c2 >>> (s.2.2 &&& 31)) &&& (1 : Int32)) = (1 : Int32) then
      bd (some (s.1 ||| (((c7 >>> (s.2.2 &&& 31)) &&& (1 : Int32)) <<< (s.2.1 &&& 31)))) fun x5 =>
      some (Sum.inl (x5, (s.2.1 + 1), (s.2.2 + 1)))
    else
      some (Sum.inl (s.1, s.2.1, (s.2.2 + 1)))
def b_M_trim_65 (c1 : Int32) (c2 : Int32) (c3 : Int32) (c5 : Int32) (s : Int32 × Mm) : Option ((Int32 × Mm) ⊕ (Int32 × Mm)) :=
  if (2 : Int32) ≤ s.1 then
    some (Sum.inr (s.1, s.2))
  else
    ck (inb ((((8 : Int32) * c1) + ((4 : Int32) * s.1)) + c5) (lenI 16)) <|
    bd (some (s.2.1 (1, 16) ((((8 : Int32) * c1) + ((4 : Int32) * s.1)) + c5).toNatClampNeg)) fun x4 =>
    bd (lp (b_M_trim_99 c2 x4) ((0 : Int32), (0 : Int32), (0 : Int32))) fun r6 =>
    ck (inb ((((8 : Int32) * c1) + ((4 : Int32) * s.1)) + c3) (lenI 16)) <|
    bd (some (uI s.2 (1, 16) ((((8 : Int32) * c1) + ((4 : Int32) * s.1)) + c3).toNatClampNeg r6.1)) fun M7 =>
    some (Sum.inl ((s.1 + 1), M7))
def b_M_trim_41 (c1 : Int32) (c2 : Int32) (s : Int32 × Int32 × Int32 × Mm) : Option ((Int32 × Int32 × Int32 × Mm) ⊕ (Int32 × Int32 × Int32 × Mm)) :=
  ck (inb c1 (lenI 18)) <|
  if (s.2.2.2.1 (1, 18) c1.toNatClampNeg) ≤ s.2.2.1 then
    some (Sum.inr (s.1, s.2.1, s.2.2.1, s.2.2.2))
  else
    if ((c2 >>> (s.2.2.1 &&& 31)) &&& (1 : Int32)) = (1 : Int32) then
      bd (lp (b_M_trim_65 c1 c2 s.1 s.2.2.1) ((0 : Int32), s.2.2.2)) fun r8 =>
      ck (inb c1 (lenI 17)) <|
      bd (some (s.2.1 ||| ((((r8.2.1 (1, 17) c1.toNatClampNeg) >>> (s.2.2.1 &&& 31)) &&& (1 : Int32)) <<< (s.1 &&& 31)))) fun x9 =>
      some (Sum.inl ((s.1 + 1), x9, (s.2.2.1 + 1), r8.2))
    else
      some (Sum.inl (s.1, s.2.1, (s.2.2.1 + 1), s.2.2.2))
def m_M_trim (a1 : Int32) (M : Mm) : Option (Int32 × Mm) :=
  bd (m_M_out a1 (6 : Int32)) fun r1 =>
  if (bI r1) = 0 then
    bd (some (uI M (8, 0) 0 (0 : Int32))) fun M2 =>
    if (M2.1 (8, 0) 0) ≤ 0 then
      bd (m_M_living a1 M2) fun r3 =>
      bd (lp (b_M_trim_41 a1 r3) ((0 : Int32), (0 : Int32), (0 : Int32), M2)) fun r10 =>
      ck (inb a1 (lenI 18)) <|
      bd (some (uI r10.2.2.2 (1, 18) a1.toNatClampNeg r10.1)) fun M11 =>
      ck (inb a1 (lenI 17)) <|
      bd (some (uI M11 (1, 17) a1.toNatClampNeg r10.2.1)) fun M12 =>
      some (r10.1, M12)
    else
      some ((0 : Int32), M2)
  else
    bd (some (uI M (8, 0) 0 (1 : Int32))) fun M13 =>
    if (M13.1 (8, 0) 0) ≤ 0 then
      bd (m_M_living a1 M13) fun r14 =>
      bd (lp (b_M_trim_41 a1 r14) ((0 : Int32), (0 : Int32), (0 : Int32), M13)) fun r15 =>
      ck (inb a1 (lenI 18)) <|
      bd (some (uI r15.2.2.2 (1, 18) a1.toNatClampNeg r15.1)) fun M16 =>
      ck (inb a1 (lenI 17)) <|
      bd (some (uI M16 (1, 17) a1.toNatClampNeg r15.2.1)) fun M17 =>
      some (r15.1, M17)
    else
      some ((0 : Int32), M13)
set_option maxRecDepth 20000 in
theorem w_M_trim_99 {l : Launch} {post : Option PV → Mm → Prop} (c1 : Int32) (c2 : Int32) (c3 : Int32) (c4 : Int32) (c5 : Int32) (c6 : Int32) (c7 : Int32) (M : Mm)  {r : Int32 × Int32 × Int32} (kk : Go l X_M_trim post 139 [(0, vr 8 0), (1, vi c1), (2, vi c2), (3, vi c3), (4, vi c4), (5, vi c5), (6, vi c6), (7, vi c7), (8, vi r.1), (9, vi r.2.1), (10, vi r.2.2)] [] M) : ∀ (n : Nat) (s : Int32 × Int32 × Int32), lpN (b_M_trim_99 c2 c7) n s = some r → Go l X_M_trim post 99 [(0, vr 8 0), (1, vi c1), (2, vi c2), (3, vi c3), (4, vi c4), (5, vi c5), (6, vi c6), (7, vi c7), (8, vi s.1), (9, vi s.2.1), (10, vi s.2.2)] [] M := by
  intro n
  induction n with
  | zero => intro s hc; exact (lpN_0 hc).elim
  | succ n ih =>
    intro s hc
    obtain ⟨q, h, hc⟩ := lpN_inv hc
    unfold b_M_trim_99 at h
    refine go_iload 61 rfl 10 rfl ?_
    refine go_iconst 4 62 rfl (by decide) ?_
    refine go_icmp_ge 139 63 rfl (by decide) (fun c => ?_) (fun c => ?_)
    · replace h := ite_t c h
      cases h
      obtain rfl := lpq_r hc
      exact kk
    · replace h := ite_f c h
      refine go_iload_n 64 rfl 2 rfl rfl ?_
      refine go_iload 65 rfl 10 rfl ?_
      refine go_ishr 66 rfl ?_
      refine go_iconst 1 67 rfl (by decide) ?_
      refine go_iand 68 rfl ?_
      refine go_iconst 1 69 rfl (by decide) ?_
      refine go_icmp_ne 133 70 rfl (by decide) (fun c => ?_) (fun c => ?_)
      · replace h := ite_f c h
        refine go_iinc 1 82 rfl 10 rfl (by decide) (Nat.le_of_ble_eq_true rfl) [(0, _), (1, _), (2, _), (3, _), (4, _), (5, _), (6, _), (7, _), (8, _), (9, _), (10, _)] rfl ?_
        refine go_goto 99 83 rfl (by decide) ?_
        cases h
        have g9 := ih _ hc
        exact g9
      · replace h := ite_t c h
        refine go_iload 71 rfl 8 rfl ?_
        refine go_iload 72 rfl 7 rfl ?_
        refine go_iload 73 rfl 10 rfl ?_
        refine go_ishr 74 rfl ?_
        refine go_iconst 1 75 rfl (by decide) ?_
        refine go_iand 76 rfl ?_
        refine go_iload 77 rfl 9 rfl ?_
        refine go_ishl 78 rfl ?_
        refine go_ior 79 rfl ?_
        obtain ⟨_, c, h⟩ := bd_inv h
        cases c
        refine go_istore 80 rfl (Nat.le_of_ble_eq_true rfl) [(0, _), (1, _), (2, _), (3, _), (4, _), (5, _), (6, _), (7, _), (8, _), (9, _), (10, _)] rfl ?_
        refine go_iinc 1 81 rfl 9 rfl (by decide) (Nat.le_of_ble_eq_true rfl) [(0, _), (1, _), (2, _), (3, _), (4, _), (5, _), (6, _), (7, _), (8, _), (9, _), (10, _)] rfl ?_
        refine go_iinc 1 82 rfl 10 rfl (by decide) (Nat.le_of_ble_eq_true rfl) [(0, _), (1, _), (2, _), (3, _), (4, _), (5, _), (6, _), (7, _), (8, _), (9, _), (10, _)] rfl ?_
        refine go_goto 99 83 rfl (by decide) ?_
        cases h
        have g9 := ih _ hc
        exact g9
set_option maxRecDepth 20000 in
theorem w_M_trim_65 {l : Launch} {post : Option PV → Mm → Prop} (c1 : Int32) (c2 : Int32) (c3 : Int32) (c4 : Int32) (c5 : Int32)  {r : Int32 × Mm} (kk : Go l X_M_trim post 163 [(0, vr 8 0), (1, vi c1), (2, vi c2), (3, vi c3), (4, vi c4), (5, vi c5), (6, vi r.1)] [] r.2) : ∀ (n : Nat) (s : Int32 × Mm), lpN (b_M_trim_65 c1 c2 c3 c5) n s = some r → Go l X_M_trim post 65 [(0, vr 8 0), (1, vi c1), (2, vi c2), (3, vi c3), (4, vi c4), (5, vi c5), (6, vi s.1)] [] s.2 := by
  intro n
  induction n with
  | zero => intro s hc; exact (lpN_0 hc).elim
  | succ n ih =>
    intro s hc
    obtain ⟨q, h, hc⟩ := lpN_inv hc
    unfold b_M_trim_65 at h
    refine go_iload 39 rfl 6 rfl ?_
    refine go_iconst 2 40 rfl (by decide) ?_
    refine go_icmp_ge 163 41 rfl (by decide) (fun c => ?_) (fun c => ?_)
    · replace h := ite_t c h
      cases h
      obtain rfl := lpq_r hc
      exact kk
    · replace h := ite_f c h
      refine go_aload_n 42 rfl 0 rfl rfl ?_
      refine go_getfield 1 _ 43 rfl (by first | decide | exact ok0 (by omega) | exact ok1 (by omega) | exact ok2 (by omega) | exact ok7 (by omega)) rfl fg_M_7 rfl ?_
      refine go_bipush 8 44 rfl (by decide) ?_
      refine go_iload_n 45 rfl 1 rfl rfl ?_
      refine go_imul 46 rfl ?_
      refine go_iconst 4 47 rfl (by decide) ?_
      refine go_iload 48 rfl 6 rfl ?_
      refine go_imul 49 rfl ?_
      refine go_iadd 50 rfl ?_
      refine go_iload 51 rfl 5 rfl ?_
      refine go_iadd 52 rfl ?_
      obtain ⟨c, h⟩ := ck_inv h
      refine go_iaload 53 rfl (by first | decide | exact ok0 (by omega) | exact ok1 (by omega) | exact ok2 (by omega) | exact ok7 (by omega)) (inb_vp c) ?_
      obtain ⟨_, c, h⟩ := bd_inv h
      cases c
      refine go_istore 54 rfl (Nat.le_of_ble_eq_true rfl) [(0, _), (1, _), (2, _), (3, _), (4, _), (5, _), (6, _), (7, _)] rfl ?_
      refine go_iconst 0 55 rfl (by decide) ?_
      refine go_istore 56 rfl (Nat.le_of_ble_eq_true rfl) [(0, _), (1, _), (2, _), (3, _), (4, _), (5, _), (6, _), (7, _), (8, _)] rfl ?_
      refine go_iconst 0 57 rfl (by decide) ?_
      refine go_istore 58 rfl (Nat.le_of_ble_eq_true rfl) [(0, _), (1, _), (2, _), (3, _), (4, _), (5, _), (6, _), (7, _), (8, _), (9, _)] rfl ?_
      refine go_iconst 0 59 rfl (by decide) ?_
      refine go_istore 60 rfl (Nat.le_of_ble_eq_true rfl) [(0, _), (1, _), (2, _), (3, _), (4, _), (5, _), (6, _), (7, _), (8, _), (9, _), (10, _)] rfl ?_
      obtain ⟨r6, c, h⟩ := bd_inv h
      refine w_M_trim_99 _ _ _ _ _ _ _ _ ?_ _ _ c
      refine go_aload_n 84 rfl 0 rfl rfl ?_
      refine go_getfield 1 _ 85 rfl (by first | decide | exact ok0 (by omega) | exact ok1 (by omega) | exact ok2 (by omega) | exact ok7 (by omega)) rfl fg_M_7 rfl ?_
      refine go_bipush 8 86 rfl (by decide) ?_
      refine go_iload_n 87 rfl 1 rfl rfl ?_
      refine go_imul 88 rfl ?_
      refine go_iconst 4 89 rfl (by decide) ?_
      refine go_iload 90 rfl 6 rfl ?_
      refine go_imul 91 rfl ?_
      refine go_iadd 92 rfl ?_
      refine go_iload_n 93 rfl 3 rfl rfl ?_
      refine go_iadd 94 rfl ?_
      refine go_iload 95 rfl 8 rfl ?_
      obtain ⟨c, h⟩ := ck_inv h
      refine go_iastore 96 rfl (by first | decide | exact ok0 (by omega) | exact ok1 (by omega) | exact ok2 (by omega) | exact ok7 (by omega)) (inb_vp c) ?_
      obtain ⟨_, c, h⟩ := bd_inv h
      cases c
      refine go_iinc 1 97 rfl 6 rfl (by decide) (Nat.le_of_ble_eq_true rfl) [(0, _), (1, _), (2, _), (3, _), (4, _), (5, _), (6, _), (7, _), (8, _), (9, _), (10, _)] rfl ?_
      refine go_goto 65 98 rfl (by decide) ?_
      cases h
      refine go_sub [0, 1, 2, 3, 4, 5, 6] rfl ?_
      have g9 := ih _ hc
      exact g9
set_option maxRecDepth 20000 in
theorem w_M_trim_41 {l : Launch} {post : Option PV → Mm → Prop} (c1 : Int32) (c2 : Int32)  {r : Int32 × Int32 × Int32 × Mm} (kk : Go l X_M_trim post 190 [(0, vr 8 0), (1, vi c1), (2, vi c2), (3, vi r.1), (4, vi r.2.1), (5, vi r.2.2.1)] [] r.2.2.2) : ∀ (n : Nat) (s : Int32 × Int32 × Int32 × Mm), lpN (b_M_trim_41 c1 c2) n s = some r → Go l X_M_trim post 41 [(0, vr 8 0), (1, vi c1), (2, vi c2), (3, vi s.1), (4, vi s.2.1), (5, vi s.2.2.1)] [] s.2.2.2 := by
  intro n
  induction n with
  | zero => intro s hc; exact (lpN_0 hc).elim
  | succ n ih =>
    intro s hc
    obtain ⟨q, h, hc⟩ := lpN_inv hc
    unfold b_M_trim_41 at h
    refine go_iload 24 rfl 5 rfl ?_
    refine go_aload_n 25 rfl 0 rfl rfl ?_
    refine go_getfield 3 _ 26 rfl (by first | decide | exact ok0 (by omega) | exact ok1 (by omega) | exact ok2 (by omega) | exact ok7 (by omega)) rfl fg_M_16 rfl ?_
    refine go_iload_n 27 rfl 1 rfl rfl ?_
    obtain ⟨c, h⟩ := ck_inv h
    refine go_iaload 28 rfl (by first | decide | exact ok0 (by omega) | exact ok1 (by omega) | exact ok2 (by omega) | exact ok7 (by omega)) (inb_vp c) ?_
    refine go_icmp_ge 190 29 rfl (by decide) (fun c => ?_) (fun c => ?_)
    · replace h := ite_t c h
      cases h
      obtain rfl := lpq_r hc
      exact kk
    · replace h := ite_f c h
      refine go_iload_n 30 rfl 2 rfl rfl ?_
      refine go_iload 31 rfl 5 rfl ?_
      refine go_ishr 32 rfl ?_
      refine go_iconst 1 33 rfl (by decide) ?_
      refine go_iand 34 rfl ?_
      refine go_iconst 1 35 rfl (by decide) ?_
      refine go_icmp_ne 184 36 rfl (by decide) (fun c => ?_) (fun c => ?_)
      · replace h := ite_f c h
        refine go_iinc 1 113 rfl 5 rfl (by decide) (Nat.le_of_ble_eq_true rfl) [(0, _), (1, _), (2, _), (3, _), (4, _), (5, _)] rfl ?_
        refine go_goto 41 114 rfl (by decide) ?_
        cases h
        have g9 := ih _ hc
        exact g9
      · replace h := ite_t c h
        refine go_iconst 0 37 rfl (by decide) ?_
        refine go_istore 38 rfl (Nat.le_of_ble_eq_true rfl) [(0, _), (1, _), (2, _), (3, _), (4, _), (5, _), (6, _)] rfl ?_
        obtain ⟨r8, c, h⟩ := bd_inv h
        refine w_M_trim_65 _ _ _ _ _ ?_ _ _ c
        refine go_iload 99 rfl 4 rfl ?_
        refine go_aload_n 100 rfl 0 rfl rfl ?_
        refine go_getfield 2 _ 101 rfl (by first | decide | exact ok0 (by omega) | exact ok1 (by omega) | exact ok2 (by omega) | exact ok7 (by omega)) rfl fg_M_13 rfl ?_
        refine go_iload_n 102 rfl 1 rfl rfl ?_
        obtain ⟨c, h⟩ := ck_inv h
        refine go_iaload 103 rfl (by first | decide | exact ok0 (by omega) | exact ok1 (by omega) | exact ok2 (by omega) | exact ok7 (by omega)) (inb_vp c) ?_
        refine go_iload 104 rfl 5 rfl ?_
        refine go_ishr 105 rfl ?_
        refine go_iconst 1 106 rfl (by decide) ?_
        refine go_iand 107 rfl ?_
        refine go_iload_n 108 rfl 3 rfl rfl ?_
        refine go_ishl 109 rfl ?_
        refine go_ior 110 rfl ?_
        obtain ⟨_, c, h⟩ := bd_inv h
        cases c
        refine go_istore 111 rfl (Nat.le_of_ble_eq_true rfl) [(0, _), (1, _), (2, _), (3, _), (4, _), (5, _), (6, _)] rfl ?_
        refine go_iinc 1 112 rfl 3 rfl (by decide) (Nat.le_of_ble_eq_true rfl) [(0, _), (1, _), (2, _), (3, _), (4, _), (5, _), (6, _)] rfl ?_
        refine go_iinc 1 113 rfl 5 rfl (by decide) (Nat.le_of_ble_eq_true rfl) [(0, _), (1, _), (2, _), (3, _), (4, _), (5, _), (6, _)] rfl ?_
        refine go_goto 41 114 rfl (by decide) ?_
        cases h
        refine go_sub [0, 1, 2, 3, 4, 5] rfl ?_
        have g9 := ih _ hc
        exact g9
set_option maxRecDepth 20000 in
theorem e_M_trim {l : Launch} {a1 : Int32} {M : Mm} {r : Int32 × Mm}  (h : m_M_trim a1 M = some r) : Ev l X_M_trim [vr 8 0, vi a1] M (fun v M2 => v = (some (vi r.1)) ∧ M2 = r.2) := by
  refine Ev.of mk_M_trim [(0, vr 8 0), (1, vi a1)] (fun _ => rfl) (fun _ => (Nat.le_of_ble_eq_true rfl)) ?_
  unfold m_M_trim at h
  refine go_aload_n 0 rfl 0 rfl rfl ?_
  refine go_iload_n 1 rfl 1 rfl rfl ?_
  refine go_bipush 6 2 rfl (by decide) ?_
  obtain ⟨r1, c, h⟩ := bd_inv h
  refine go_callS1 _ 3 rfl (e_M_out c) mk_M_out cs_M_45 rfl ⟨(Nat.le_of_ble_eq_true rfl), (Nat.le_of_ble_eq_true rfl)⟩ (Nat.le_of_ble_eq_true rfl) rfl ?_
  refine go_if_eq 14 4 rfl (by decide) (fun c => ?_) (fun c => ?_)
  · replace h := ite_t c h
    refine go_iconst 0 7 rfl (by decide) ?_
    refine go_putfield 0 .int 8 rfl (by first | decide | exact ok0 (by omega) | exact ok1 (by omega) | exact ok2 (by omega) | exact ok7 (by omega)) rfl fp_M_41 rfl rfl (Nat.le_of_ble_eq_true rfl) rfl ?_
    obtain ⟨_, c, h⟩ := bd_inv h
    cases c
    refine go_aload_n 9 rfl 0 rfl rfl ?_
    refine go_getfield 0 _ 10 rfl (by first | decide | exact ok0 (by omega) | exact ok1 (by omega) | exact ok2 (by omega) | exact ok7 (by omega)) rfl fg_M_41 rfl ?_
    refine go_if_le 27 11 rfl (by decide) (fun c => ?_) (fun c => ?_)
    · replace h := ite_t c h
      refine go_aload_n 14 rfl 0 rfl rfl ?_
      refine go_iload_n 15 rfl 1 rfl rfl ?_
      obtain ⟨r3, c, h⟩ := bd_inv h
      refine go_callV1 _ 16 rfl (e_M_living c) mk_M_living (by first | decide | exact ok0 (by omega) | exact ok1 (by omega) | exact ok2 (by omega) | exact ok7 (by omega)) rfl cv_M_68 rfl ⟨(Nat.le_of_ble_eq_true rfl), (Nat.le_of_ble_eq_true rfl)⟩ (Nat.le_of_ble_eq_true rfl) rfl ?_
      refine go_istore_n 17 rfl rfl (Nat.le_of_ble_eq_true rfl) [(0, _), (1, _), (2, _)] rfl ?_
      refine go_iconst 0 18 rfl (by decide) ?_
      refine go_istore_n 19 rfl rfl (Nat.le_of_ble_eq_true rfl) [(0, _), (1, _), (2, _), (3, _)] rfl ?_
      refine go_iconst 0 20 rfl (by decide) ?_
      refine go_istore 21 rfl (Nat.le_of_ble_eq_true rfl) [(0, _), (1, _), (2, _), (3, _), (4, _)] rfl ?_
      refine go_iconst 0 22 rfl (by decide) ?_
      refine go_istore 23 rfl (Nat.le_of_ble_eq_true rfl) [(0, _), (1, _), (2, _), (3, _), (4, _), (5, _)] rfl ?_
      obtain ⟨r10, c, h⟩ := bd_inv h
      refine w_M_trim_41 _ _ ?_ _ _ c
      refine go_aload_n 115 rfl 0 rfl rfl ?_
      refine go_getfield 3 _ 116 rfl (by first | decide | exact ok0 (by omega) | exact ok1 (by omega) | exact ok2 (by omega) | exact ok7 (by omega)) rfl fg_M_16 rfl ?_
      refine go_iload_n 117 rfl 1 rfl rfl ?_
      refine go_iload_n 118 rfl 3 rfl rfl ?_
      obtain ⟨c, h⟩ := ck_inv h
      refine go_iastore 119 rfl (by first | decide | exact ok0 (by omega) | exact ok1 (by omega) | exact ok2 (by omega) | exact ok7 (by omega)) (inb_vp c) ?_
      obtain ⟨_, c, h⟩ := bd_inv h
      cases c
      refine go_aload_n 120 rfl 0 rfl rfl ?_
      refine go_getfield 2 _ 121 rfl (by first | decide | exact ok0 (by omega) | exact ok1 (by omega) | exact ok2 (by omega) | exact ok7 (by omega)) rfl fg_M_13 rfl ?_
      refine go_iload_n 122 rfl 1 rfl rfl ?_
      refine go_iload 123 rfl 4 rfl ?_
      obtain ⟨c, h⟩ := ck_inv h
      refine go_iastore 124 rfl (by first | decide | exact ok0 (by omega) | exact ok1 (by omega) | exact ok2 (by omega) | exact ok7 (by omega)) (inb_vp c) ?_
      obtain ⟨_, c, h⟩ := bd_inv h
      cases c
      refine go_iload_n 125 rfl 3 rfl rfl ?_
      cases h
      exact go_ireturn 126 rfl rfl rfl ⟨rfl, rfl⟩
    · replace h := ite_f c h
      refine go_iconst 0 12 rfl (by decide) ?_
      cases h
      exact go_ireturn 13 rfl rfl rfl ⟨rfl, rfl⟩
  · replace h := ite_f c h
    refine go_iconst 1 5 rfl (by decide) ?_
    refine go_goto 15 6 rfl (by decide) ?_
    refine go_putfield 0 .int 8 rfl (by first | decide | exact ok0 (by omega) | exact ok1 (by omega) | exact ok2 (by omega) | exact ok7 (by omega)) rfl fp_M_41 rfl rfl (Nat.le_of_ble_eq_true rfl) rfl ?_
    obtain ⟨_, c, h⟩ := bd_inv h
    cases c
    refine go_aload_n 9 rfl 0 rfl rfl ?_
    refine go_getfield 0 _ 10 rfl (by first | decide | exact ok0 (by omega) | exact ok1 (by omega) | exact ok2 (by omega) | exact ok7 (by omega)) rfl fg_M_41 rfl ?_
    refine go_if_le 27 11 rfl (by decide) (fun c => ?_) (fun c => ?_)
    · replace h := ite_t c h
      refine go_aload_n 14 rfl 0 rfl rfl ?_
      refine go_iload_n 15 rfl 1 rfl rfl ?_
      obtain ⟨r14, c, h⟩ := bd_inv h
      refine go_callV1 _ 16 rfl (e_M_living c) mk_M_living (by first | decide | exact ok0 (by omega) | exact ok1 (by omega) | exact ok2 (by omega) | exact ok7 (by omega)) rfl cv_M_68 rfl ⟨(Nat.le_of_ble_eq_true rfl), (Nat.le_of_ble_eq_true rfl)⟩ (Nat.le_of_ble_eq_true rfl) rfl ?_
      refine go_istore_n 17 rfl rfl (Nat.le_of_ble_eq_true rfl) [(0, _), (1, _), (2, _)] rfl ?_
      refine go_iconst 0 18 rfl (by decide) ?_
      refine go_istore_n 19 rfl rfl (Nat.le_of_ble_eq_true rfl) [(0, _), (1, _), (2, _), (3, _)] rfl ?_
      refine go_iconst 0 20 rfl (by decide) ?_
      refine go_istore 21 rfl (Nat.le_of_ble_eq_true rfl) [(0, _), (1, _), (2, _), (3, _), (4, _)] rfl ?_
      refine go_iconst 0 22 rfl (by decide) ?_
      refine go_istore 23 rfl (Nat.le_of_ble_eq_true rfl) [(0, _), (1, _), (2, _), (3, _), (4, _), (5, _)] rfl ?_
      obtain ⟨r15, c, h⟩ := bd_inv h
      refine w_M_trim_41 _ _ ?_ _ _ c
      refine go_aload_n 115 rfl 0 rfl rfl ?_
      refine go_getfield 3 _ 116 rfl (by first | decide | exact ok0 (by omega) | exact ok1 (by omega) | exact ok2 (by omega) | exact ok7 (by omega)) rfl fg_M_16 rfl ?_
      refine go_iload_n 117 rfl 1 rfl rfl ?_
      refine go_iload_n 118 rfl 3 rfl rfl ?_
      obtain ⟨c, h⟩ := ck_inv h
      refine go_iastore 119 rfl (by first | decide | exact ok0 (by omega) | exact ok1 (by omega) | exact ok2 (by omega) | exact ok7 (by omega)) (inb_vp c) ?_
      obtain ⟨_, c, h⟩ := bd_inv h
      cases c
      refine go_aload_n 120 rfl 0 rfl rfl ?_
      refine go_getfield 2 _ 121 rfl (by first | decide | exact ok0 (by omega) | exact ok1 (by omega) | exact ok2 (by omega) | exact ok7 (by omega)) rfl fg_M_13 rfl ?_
      refine go_iload_n 122 rfl 1 rfl rfl ?_
      refine go_iload 123 rfl 4 rfl ?_
      obtain ⟨c, h⟩ := ck_inv h
      refine go_iastore 124 rfl (by first | decide | exact ok0 (by omega) | exact ok1 (by omega) | exact ok2 (by omega) | exact ok7 (by omega)) (inb_vp c) ?_
      obtain ⟨_, c, h⟩ := bd_inv h
      cases c
      refine go_iload_n 125 rfl 3 rfl rfl ?_
      cases h
      exact go_ireturn 126 rfl rfl rfl ⟨rfl, rfl⟩
    · replace h := ite_f c h
      refine go_iconst 0 12 rfl (by decide) ?_
      cases h
      exact go_ireturn 13 rfl rfl rfl ⟨rfl, rfl⟩
def X_M_empty : MX := (⟨"OmegaDeskModel", "empty", "(I)Z"⟩, prog_8_method_16_code, 2, some .boolean, { frames := 3, cells := 0, slots := 0, locals := 74 },
  [(0, .aload_n 0, 1), (1, .iload_n 1, 2), (2, .bipush 6, 4), (4, .invokestatic 45, 7), (7, .ifCond .eq 7, 10), (10, .iconst 1, 11), (11, .goto 4, 14), (14, .iconst 0, 15), (15, .putfield 41, 18), (18, .aload_n 0, 19), (19, .getfield 41, 22), (22, .ifCond .ne 15, 25), (25, .aload_n 0, 26), (26, .iload_n 1, 27), (27, .invokevirtual 68, 30), (30, .ifCond .ne 7, 33), (33, .iconst 1, 34), (34, .goto 4, 37), (37, .iconst 0, 38), (38, .ireturn, 39)])
set_option maxRecDepth 20000 in
theorem mk_M_empty : Mk X_M_empty := ⟨by unfold TBk; decide +kernel, by decide +kernel, wb_617, ⟨by decide, by decide⟩, rfl, rfl, wb_6⟩
def m_M_empty (a1 : Int32) (M : Mm) : Option (Bool × Mm) :=
  bd (m_M_out a1 (6 : Int32)) fun r1 =>
  if (bI r1) = 0 then
    bd (some (uI M (8, 0) 0 (0 : Int32))) fun M2 =>
    if (M2.1 (8, 0) 0) = 0 then
      bd (m_M_living a1 M2) fun r3 =>
      if r3 = 0 then
        some (true, M2)
      else
        some (false, M2)
    else
      some (false, M2)
  else
    bd (some (uI M (8, 0) 0 (1 : Int32))) fun M4 =>
    if (M4.1 (8, 0) 0) = 0 then
      bd (m_M_living a1 M4) fun r5 =>
      if r5 = 0 then
        some (true, M4)
      else
        some (false, M4)
    else
      some (false, M4)
set_option maxRecDepth 20000 in
theorem e_M_empty {l : Launch} {a1 : Int32} {M : Mm} {r : Bool × Mm}  (h : m_M_empty a1 M = some r) : Ev l X_M_empty [vr 8 0, vi a1] M (fun v M2 => v = (some (vi (bI r.1))) ∧ M2 = r.2) := by
  refine Ev.of mk_M_empty [(0, vr 8 0), (1, vi a1)] (fun _ => rfl) (fun _ => (Nat.le_of_ble_eq_true rfl)) ?_
  unfold m_M_empty at h
  refine go_aload_n 0 rfl 0 rfl rfl ?_
  refine go_iload_n 1 rfl 1 rfl rfl ?_
  refine go_bipush 6 2 rfl (by decide) ?_
  obtain ⟨r1, c, h⟩ := bd_inv h
  refine go_callS1 _ 3 rfl (e_M_out c) mk_M_out cs_M_45 rfl ⟨(Nat.le_of_ble_eq_true rfl), (Nat.le_of_ble_eq_true rfl)⟩ (Nat.le_of_ble_eq_true rfl) rfl ?_
  refine go_if_eq 14 4 rfl (by decide) (fun c => ?_) (fun c => ?_)
  · replace h := ite_t c h
    refine go_iconst 0 7 rfl (by decide) ?_
    refine go_putfield 0 .int 8 rfl (by first | decide | exact ok0 (by omega) | exact ok1 (by omega) | exact ok2 (by omega) | exact ok7 (by omega)) rfl fp_M_41 rfl rfl (Nat.le_of_ble_eq_true rfl) rfl ?_
    obtain ⟨_, c, h⟩ := bd_inv h
    cases c
    refine go_aload_n 9 rfl 0 rfl rfl ?_
    refine go_getfield 0 _ 10 rfl (by first | decide | exact ok0 (by omega) | exact ok1 (by omega) | exact ok2 (by omega) | exact ok7 (by omega)) rfl fg_M_41 rfl ?_
    refine go_if_ne 37 11 rfl (by decide) (fun c => ?_) (fun c => ?_)
    · replace h := ite_f c h
      refine go_iconst 0 18 rfl (by decide) ?_
      cases h
      exact go_ireturn 19 rfl rfl rfl ⟨rfl, rfl⟩
    · replace h := ite_t c h
      refine go_aload_n 12 rfl 0 rfl rfl ?_
      refine go_iload_n 13 rfl 1 rfl rfl ?_
      obtain ⟨r3, c, h⟩ := bd_inv h
      refine go_callV1 _ 14 rfl (e_M_living c) mk_M_living (by first | decide | exact ok0 (by omega) | exact ok1 (by omega) | exact ok2 (by omega) | exact ok7 (by omega)) rfl cv_M_68 rfl ⟨(Nat.le_of_ble_eq_true rfl), (Nat.le_of_ble_eq_true rfl)⟩ (Nat.le_of_ble_eq_true rfl) rfl ?_
      refine go_if_ne 37 15 rfl (by decide) (fun c => ?_) (fun c => ?_)
      · replace h := ite_f c h
        refine go_iconst 0 18 rfl (by decide) ?_
        cases h
        exact go_ireturn 19 rfl rfl rfl ⟨rfl, rfl⟩
      · replace h := ite_t c h
        refine go_iconst 1 16 rfl (by decide) ?_
        refine go_goto 38 17 rfl (by decide) ?_
        cases h
        exact go_ireturn 19 rfl rfl rfl ⟨rfl, rfl⟩
  · replace h := ite_f c h
    refine go_iconst 1 5 rfl (by decide) ?_
    refine go_goto 15 6 rfl (by decide) ?_
    refine go_putfield 0 .int 8 rfl (by first | decide | exact ok0 (by omega) | exact ok1 (by omega) | exact ok2 (by omega) | exact ok7 (by omega)) rfl fp_M_41 rfl rfl (Nat.le_of_ble_eq_true rfl) rfl ?_
    obtain ⟨_, c, h⟩ := bd_inv h
    cases c
    refine go_aload_n 9 rfl 0 rfl rfl ?_
    refine go_getfield 0 _ 10 rfl (by first | decide | exact ok0 (by omega) | exact ok1 (by omega) | exact ok2 (by omega) | exact ok7 (by omega)) rfl fg_M_41 rfl ?_
    refine go_if_ne 37 11 rfl (by decide) (fun c => ?_) (fun c => ?_)
    · replace h := ite_f c h
      refine go_iconst 0 18 rfl (by decide) ?_
      cases h
      exact go_ireturn 19 rfl rfl rfl ⟨rfl, rfl⟩
    · replace h := ite_t c h
      refine go_aload_n 12 rfl 0 rfl rfl ?_
      refine go_iload_n 13 rfl 1 rfl rfl ?_
      obtain ⟨r5, c, h⟩ := bd_inv h
      refine go_callV1 _ 14 rfl (e_M_living c) mk_M_living (by first | decide | exact ok0 (by omega) | exact ok1 (by omega) | exact ok2 (by omega) | exact ok7 (by omega)) rfl cv_M_68 rfl ⟨(Nat.le_of_ble_eq_true rfl), (Nat.le_of_ble_eq_true rfl)⟩ (Nat.le_of_ble_eq_true rfl) rfl ?_
      refine go_if_ne 37 15 rfl (by decide) (fun c => ?_) (fun c => ?_)
      · replace h := ite_f c h
        refine go_iconst 0 18 rfl (by decide) ?_
        cases h
        exact go_ireturn 19 rfl rfl rfl ⟨rfl, rfl⟩
      · replace h := ite_t c h
        refine go_iconst 1 16 rfl (by decide) ?_
        refine go_goto 38 17 rfl (by decide) ?_
        cases h
        exact go_ireturn 19 rfl rfl rfl ⟨rfl, rfl⟩
