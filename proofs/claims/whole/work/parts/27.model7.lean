def X_M_misses : MX := (⟨"OmegaDeskModel", "misses", "(II)Z"⟩, prog_8_method_34_code, 3, some .boolean, { frames := 0, cells := 0, slots := 0, locals := 0 },
  [(0, .iconst 0, 1), (1, .istore_n 2, 2), (2, .iload_n 2, 3), (3, .bipush 8, 5), (5, .if_icmp .ge 26, 8), (8, .iload_n 0, 9), (9, .iload_n 2, 10), (10, .ishr, 11), (11, .iconst 1, 12), (12, .iand, 13), (13, .iconst 1, 14), (14, .if_icmp .ne 11, 17), (17, .iload_n 2, 18), (18, .iload_n 1, 19), (19, .iand, 20), (20, .ifCond .ne 5, 23), (23, .iconst 1, 24), (24, .ireturn, 25), (25, .iinc 2 1, 28), (28, .goto (-26), 31), (31, .iconst 0, 32), (32, .ireturn, 33)])
set_option maxRecDepth 20000 in
theorem mk_M_misses : Mk X_M_misses := ⟨by unfold TBk; decide +kernel, by decide +kernel, wb_689, ⟨by decide, by decide⟩, rfl, rfl, wb_6⟩
def b_M_misses_2 (c0 : Int32) (c1 : Int32) (s : Int32) : Option ((Int32) ⊕ ((Int32) ⊕ (Bool))) :=
  if (8 : Int32) ≤ s then
    some (Sum.inr (Sum.inl s))
  else
    if ((c0 >>> (s &&& 31)) &&& (1 : Int32)) = (1 : Int32) then
      if (s &&& c1) = 0 then
        some (Sum.inr (Sum.inr true))
      else
        some (Sum.inl (s + 1))
    else
      some (Sum.inl (s + 1))
def m_M_misses (a0 : Int32) (a1 : Int32) : Option (Bool) :=
  bd (lp (b_M_misses_2 a0 a1) (0 : Int32)) fun r1 =>
  smr r1 (fun v3 => some v3) fun s2 =>
  some false
set_option maxRecDepth 20000 in
theorem w_M_misses_2 {l : Launch} {post : Option PV → Mm → Prop} (c0 : Int32) (c1 : Int32) (M : Mm)  {r : (Int32) ⊕ (Bool)} (kk : ∀ s2, r = Sum.inl s2 → Go l X_M_misses post 31 [(0, vi c0), (1, vi c1), (2, vi s2)] [] M) (kr : ∀ v, r = Sum.inr v → post (some (vi (bI v))) M) : ∀ (n : Nat) (s : Int32), lpN (b_M_misses_2 c0 c1) n s = some r → Go l X_M_misses post 2 [(0, vi c0), (1, vi c1), (2, vi s)] [] M := by
  intro n
  induction n with
  | zero => intro s hc; exact (lpN_0 hc).elim
  | succ n ih =>
    intro s hc
    obtain ⟨q, h, hc⟩ := lpN_inv hc
    unfold b_M_misses_2 at h
    refine go_iload_n 2 rfl 2 rfl rfl ?_
    refine go_bipush 8 3 rfl (by decide) ?_
    refine go_icmp_ge 31 4 rfl (by decide) (fun c => ?_) (fun c => ?_)
    · replace h := ite_t c h
      cases h
      obtain rfl := lpq_r hc
      exact kk _ rfl
    · replace h := ite_f c h
      refine go_iload_n 5 rfl 0 rfl rfl ?_
      refine go_iload_n 6 rfl 2 rfl rfl ?_
      refine go_ishr 7 rfl ?_
      refine go_iconst 1 8 rfl (by decide) ?_
      refine go_iand 9 rfl ?_
      refine go_iconst 1 10 rfl (by decide) ?_
      refine go_icmp_ne 25 11 rfl (by decide) (fun c => ?_) (fun c => ?_)
      · replace h := ite_f c h
        refine go_iinc 1 18 rfl 2 rfl (by decide) (Nat.le_of_ble_eq_true rfl) [(0, _), (1, _), (2, _)] rfl ?_
        refine go_goto 2 19 rfl (by decide) ?_
        cases h
        have g9 := ih _ hc
        exact g9
      · replace h := ite_t c h
        refine go_iload_n 12 rfl 2 rfl rfl ?_
        refine go_iload_n 13 rfl 1 rfl rfl ?_
        refine go_iand 14 rfl ?_
        refine go_if_ne 25 15 rfl (by decide) (fun c => ?_) (fun c => ?_)
        · replace h := ite_f c h
          refine go_iinc 1 18 rfl 2 rfl (by decide) (Nat.le_of_ble_eq_true rfl) [(0, _), (1, _), (2, _)] rfl ?_
          refine go_goto 2 19 rfl (by decide) ?_
          cases h
          have g9 := ih _ hc
          exact g9
        · replace h := ite_t c h
          refine go_iconst 1 16 rfl (by decide) ?_
          cases h
          obtain rfl := lpq_r hc
          exact go_ireturn 17 rfl rfl rfl (kr _ rfl)
set_option maxRecDepth 20000 in
theorem e_M_misses {l : Launch} {a0 : Int32} {a1 : Int32} {M : Mm} {r : Bool}  (h : m_M_misses a0 a1 = some r) : Ev l X_M_misses [vi a0, vi a1] M (fun v M2 => v = (some (vi (bI r))) ∧ M2 = M) := by
  refine Ev.of mk_M_misses [(0, vi a0), (1, vi a1)] (fun _ => rfl) (fun _ => (Nat.le_of_ble_eq_true rfl)) ?_
  unfold m_M_misses at h
  refine go_iconst 0 0 rfl (by decide) ?_
  refine go_istore_n 1 rfl rfl (Nat.le_of_ble_eq_true rfl) [(0, _), (1, _), (2, _)] rfl ?_
  obtain ⟨r1, c, h⟩ := bd_inv h
  refine w_M_misses_2 _ _ _ (fun s2 e => ?_) (fun v e => ?_) _ _ c
  · subst e
    replace h := smr_l h
    refine go_iconst 0 20 rfl (by decide) ?_
    cases h
    exact go_ireturn 21 rfl rfl rfl ⟨rfl, rfl⟩
  · subst e
    replace h := smr_r h
    cases h
    exact ⟨rfl, rfl⟩
def X_M_differs : MX := (⟨"OmegaDeskModel", "differs", "(II)Z"⟩, prog_8_method_33_code, 6, some .boolean, { frames := 3, cells := 0, slots := 0, locals := 85 },
  [(0, .aload_n 0, 1), (1, .iload_n 1, 2), (2, .iload_n 2, 3), (3, .invokevirtual 116, 6), (6, .iconst 0, 7), (7, .istore_n 3, 8), (8, .iload_n 3, 9), (9, .aload_n 0, 10), (10, .getfield 16, 13), (13, .iload_n 1, 14), (14, .iaload, 15), (15, .if_icmp .ge 94, 18), (18, .aload_n 0, 19), (19, .getfield 38, 22), (22, .iload_n 3, 23), (23, .iaload, 24), (24, .ifCond .eq 79, 27), (27, .aload_n 0, 28), (28, .iload_n 1, 29), (29, .iload_n 2, 30), (30, .iload_n 3, 31), (31, .invokevirtual 119, 34), (34, .sipush 19683, 37), (37, .iconst 2, 38), (38, .iload_n 3, 39), (39, .imul, 40), (40, .iconst 1, 41), (41, .iadd, 42), (42, .imul, 43), (43, .istore 4, 45), (45, .iconst 0, 46), (46, .istore 5, 48), (48, .iload 5, 50), (50, .sipush 19683, 53), (53, .if_icmp .ge 50, 56), (56, .aload_n 0, 57), (57, .getfield 22, 60), (60, .iload 4, 62), (62, .iload 5, 64), (64, .iadd, 65), (65, .invokestatic 122, 68), (68, .ifCond .eq 29, 71), (71, .aload_n 0, 72), (72, .getfield 38, 75), (75, .iload_n 3, 76), (76, .iaload, 77), (77, .aload_n 0, 78), (78, .iload 5, 80), (80, .aload_n 0, 81), (81, .getfield 16, 84), (84, .iload_n 2, 85), (85, .iaload, 86), (86, .invokevirtual 126, 89), (89, .invokestatic 129, 92), (92, .ifCond .eq 5, 95), (95, .iconst 1, 96), (96, .ireturn, 97), (97, .iinc 5 1, 100), (100, .goto (-52), 103), (103, .iinc 3 1, 106), (106, .goto (-98), 109), (109, .iconst 0, 110), (110, .ireturn, 111)])
set_option maxRecDepth 20000 in
theorem mk_M_differs : Mk X_M_differs := ⟨by unfold TBk; decide +kernel, by decide +kernel, wb_648, ⟨by decide, by decide⟩, rfl, rfl, wb_6⟩
theorem cv_M_116 : CV "OmegaDeskModel" 116 X_M_begin 2 8 := ⟨Or.inl wb_649, ⟨wb_651, ws_M_begin⟩, by decide +kernel, F_M, 12, rfl⟩
theorem cv_M_119 : CV "OmegaDeskModel" 119 X_M_gather 3 8 := ⟨Or.inl wb_657, ⟨wb_659, ws_M_gather⟩, by decide +kernel, F_M, 12, rfl⟩
theorem cs_M_122 : CS "OmegaDeskModel" 122 X_M_bit 2 := ⟨Or.inl wb_680, wb_681, by decide +kernel⟩
theorem cv_M_126 : CV "OmegaDeskModel" 126 X_M_taken 2 8 := ⟨Or.inl wb_683, ⟨wb_685, ws_M_taken⟩, by decide +kernel, F_M, 12, rfl⟩
theorem cs_M_129 : CS "OmegaDeskModel" 129 X_M_misses 2 := ⟨Or.inl wb_687, wb_688, by decide +kernel⟩
def b_M_differs_48 (c2 : Int32) (c3 : Int32) (c4 : Int32) (s : Int32 × Mm) : Option ((Int32 × Mm) ⊕ ((Int32 × Mm) ⊕ (Bool × Mm))) :=
  if (19683 : Int32) ≤ s.1 then
    some (Sum.inr (Sum.inl (s.1, s.2)))
  else
    bd (m_M_bit 0 (c4 + s.1) s.2) fun r4 =>
    if (bI r4) = 0 then
      some (Sum.inl ((s.1 + 1), s.2))
    else
      ck (inb c3 (lenI 22)) <|
      ck (inb c2 (lenI 18)) <|
      bd (m_M_taken s.1 (s.2.1 (1, 18) c2.toNatClampNeg) s.2) fun r5 =>
      bd (m_M_misses (s.2.1 (1, 22) c3.toNatClampNeg) r5.1) fun r6 =>
      if (bI r6) = 0 then
        some (Sum.inl ((s.1 + 1), r5.2))
      else
        some (Sum.inr (Sum.inr (true, r5.2)))
def b_M_differs_8 (c1 : Int32) (c2 : Int32) (s : Int32 × Mm) : Option ((Int32 × Mm) ⊕ ((Int32 × Mm) ⊕ (Bool × Mm))) :=
  ck (inb c1 (lenI 18)) <|
  if (s.2.1 (1, 18) c1.toNatClampNeg) ≤ s.1 then
    some (Sum.inr (Sum.inl (s.1, s.2)))
  else
    ck (inb s.1 (lenI 22)) <|
    if (s.2.1 (1, 22) s.1.toNatClampNeg) = 0 then
      some (Sum.inl ((s.1 + 1), s.2))
    else
      bd (m_M_gather c1 c2 s.1 s.2) fun r2 =>
      bd (some ((19683 : Int32) * (((2 : Int32) * s.1) + (1 : Int32)))) fun x3 =>
      bd (lp (b_M_differs_48 c2 s.1 x3) ((0 : Int32), r2)) fun r7 =>
      smr r7 (fun v9 => some (Sum.inr (Sum.inr v9))) fun s8 =>
      some (Sum.inl ((s.1 + 1), s8.2))
def m_M_differs (a1 : Int32) (a2 : Int32) (M : Mm) : Option (Bool × Mm) :=
  bd (m_M_begin a1 a2 M) fun r1 =>
  bd (lp (b_M_differs_8 a1 a2) ((0 : Int32), r1)) fun r10 =>
  smr r10 (fun v12 => some v12) fun s11 =>
  some (false, s11.2)
set_option maxRecDepth 20000 in
theorem w_M_differs_48 {l : Launch} {post : Option PV → Mm → Prop} (c1 : Int32) (c2 : Int32) (c3 : Int32) (c4 : Int32)  {r : (Int32 × Mm) ⊕ (Bool × Mm)} (kk : ∀ s2, r = Sum.inl s2 → Go l X_M_differs post 103 [(0, vr 8 0), (1, vi c1), (2, vi c2), (3, vi c3), (4, vi c4), (5, vi s2.1)] [] s2.2) (kr : ∀ v, r = Sum.inr v → post (some (vi (bI v.1))) v.2) : ∀ (n : Nat) (s : Int32 × Mm), lpN (b_M_differs_48 c2 c3 c4) n s = some r → Go l X_M_differs post 48 [(0, vr 8 0), (1, vi c1), (2, vi c2), (3, vi c3), (4, vi c4), (5, vi s.1)] [] s.2 := by
  intro n
  induction n with
  | zero => intro s hc; exact (lpN_0 hc).elim
  | succ n ih =>
    intro s hc
    obtain ⟨q, h, hc⟩ := lpN_inv hc
    unfold b_M_differs_48 at h
    refine go_iload 32 rfl 5 rfl ?_
    refine go_sipush 19683 33 rfl (by decide) ?_
    refine go_icmp_ge 103 34 rfl (by decide) (fun c => ?_) (fun c => ?_)
    · replace h := ite_t c h
      cases h
      obtain rfl := lpq_r hc
      exact kk _ rfl
    · replace h := ite_f c h
      refine go_aload_n 35 rfl 0 rfl rfl ?_
      refine go_getfield 6 _ 36 rfl (by first | decide | exact ok0 (by omega) | exact ok1 (by omega) | exact ok2 (by omega) | exact ok7 (by omega)) rfl fg_M_22 rfl ?_
      refine go_iload 37 rfl 4 rfl ?_
      refine go_iload 38 rfl 5 rfl ?_
      refine go_iadd 39 rfl ?_
      obtain ⟨r4, c, h⟩ := bd_inv h
      refine go_callS1 _ 40 rfl (e_M_bit (by omega) c) mk_M_bit cs_M_122 rfl ⟨(Nat.le_of_ble_eq_true rfl), (Nat.le_of_ble_eq_true rfl)⟩ (Nat.le_of_ble_eq_true rfl) rfl ?_
      refine go_if_eq 97 41 rfl (by decide) (fun c => ?_) (fun c => ?_)
      · replace h := ite_t c h
        refine go_iinc 1 57 rfl 5 rfl (by decide) (Nat.le_of_ble_eq_true rfl) [(0, _), (1, _), (2, _), (3, _), (4, _), (5, _)] rfl ?_
        refine go_goto 48 58 rfl (by decide) ?_
        cases h
        have g9 := ih _ hc
        exact g9
      · replace h := ite_f c h
        refine go_aload_n 42 rfl 0 rfl rfl ?_
        refine go_getfield 11 _ 43 rfl (by first | decide | exact ok0 (by omega) | exact ok1 (by omega) | exact ok2 (by omega) | exact ok7 (by omega)) rfl fg_M_38 rfl ?_
        refine go_iload_n 44 rfl 3 rfl rfl ?_
        obtain ⟨c, h⟩ := ck_inv h
        refine go_iaload 45 rfl (by first | decide | exact ok0 (by omega) | exact ok1 (by omega) | exact ok2 (by omega) | exact ok7 (by omega)) (inb_vp c) ?_
        refine go_aload_n 46 rfl 0 rfl rfl ?_
        refine go_iload 47 rfl 5 rfl ?_
        refine go_aload_n 48 rfl 0 rfl rfl ?_
        refine go_getfield 3 _ 49 rfl (by first | decide | exact ok0 (by omega) | exact ok1 (by omega) | exact ok2 (by omega) | exact ok7 (by omega)) rfl fg_M_16 rfl ?_
        refine go_iload_n 50 rfl 2 rfl rfl ?_
        obtain ⟨c, h⟩ := ck_inv h
        refine go_iaload 51 rfl (by first | decide | exact ok0 (by omega) | exact ok1 (by omega) | exact ok2 (by omega) | exact ok7 (by omega)) (inb_vp c) ?_
        obtain ⟨r5, c, h⟩ := bd_inv h
        refine go_callV1 _ 52 rfl (e_M_taken c) mk_M_taken (by first | decide | exact ok0 (by omega) | exact ok1 (by omega) | exact ok2 (by omega) | exact ok7 (by omega)) rfl cv_M_126 rfl ⟨(Nat.le_of_ble_eq_true rfl), (Nat.le_of_ble_eq_true rfl)⟩ (Nat.le_of_ble_eq_true rfl) rfl ?_
        obtain ⟨r6, c, h⟩ := bd_inv h
        refine go_callS1 _ 53 rfl (e_M_misses c) mk_M_misses cs_M_129 rfl ⟨(Nat.le_of_ble_eq_true rfl), (Nat.le_of_ble_eq_true rfl)⟩ (Nat.le_of_ble_eq_true rfl) rfl ?_
        refine go_if_eq 97 54 rfl (by decide) (fun c => ?_) (fun c => ?_)
        · replace h := ite_t c h
          refine go_iinc 1 57 rfl 5 rfl (by decide) (Nat.le_of_ble_eq_true rfl) [(0, _), (1, _), (2, _), (3, _), (4, _), (5, _)] rfl ?_
          refine go_goto 48 58 rfl (by decide) ?_
          cases h
          have g9 := ih _ hc
          exact g9
        · replace h := ite_f c h
          refine go_iconst 1 55 rfl (by decide) ?_
          cases h
          obtain rfl := lpq_r hc
          exact go_ireturn 56 rfl rfl rfl (kr _ rfl)
set_option maxRecDepth 20000 in
theorem w_M_differs_8 {l : Launch} {post : Option PV → Mm → Prop} (c1 : Int32) (c2 : Int32)  {r : (Int32 × Mm) ⊕ (Bool × Mm)} (kk : ∀ s2, r = Sum.inl s2 → Go l X_M_differs post 109 [(0, vr 8 0), (1, vi c1), (2, vi c2), (3, vi s2.1)] [] s2.2) (kr : ∀ v, r = Sum.inr v → post (some (vi (bI v.1))) v.2) : ∀ (n : Nat) (s : Int32 × Mm), lpN (b_M_differs_8 c1 c2) n s = some r → Go l X_M_differs post 8 [(0, vr 8 0), (1, vi c1), (2, vi c2), (3, vi s.1)] [] s.2 := by
  intro n
  induction n with
  | zero => intro s hc; exact (lpN_0 hc).elim
  | succ n ih =>
    intro s hc
    obtain ⟨q, h, hc⟩ := lpN_inv hc
    unfold b_M_differs_8 at h
    refine go_iload_n 6 rfl 3 rfl rfl ?_
    refine go_aload_n 7 rfl 0 rfl rfl ?_
    refine go_getfield 3 _ 8 rfl (by first | decide | exact ok0 (by omega) | exact ok1 (by omega) | exact ok2 (by omega) | exact ok7 (by omega)) rfl fg_M_16 rfl ?_
    refine go_iload_n 9 rfl 1 rfl rfl ?_
    obtain ⟨c, h⟩ := ck_inv h
    refine go_iaload 10 rfl (by first | decide | exact ok0 (by omega) | exact ok1 (by omega) | exact ok2 (by omega) | exact ok7 (by omega)) (inb_vp c) ?_
    refine go_icmp_ge 109 11 rfl (by decide) (fun c => ?_) (fun c => ?_)
    · replace h := ite_t c h
      cases h
      obtain rfl := lpq_r hc
      exact kk _ rfl
    · replace h := ite_f c h
      refine go_aload_n 12 rfl 0 rfl rfl ?_
      refine go_getfield 11 _ 13 rfl (by first | decide | exact ok0 (by omega) | exact ok1 (by omega) | exact ok2 (by omega) | exact ok7 (by omega)) rfl fg_M_38 rfl ?_
      refine go_iload_n 14 rfl 3 rfl rfl ?_
      obtain ⟨c, h⟩ := ck_inv h
      refine go_iaload 15 rfl (by first | decide | exact ok0 (by omega) | exact ok1 (by omega) | exact ok2 (by omega) | exact ok7 (by omega)) (inb_vp c) ?_
      refine go_if_eq 103 16 rfl (by decide) (fun c => ?_) (fun c => ?_)
      · replace h := ite_t c h
        refine go_iinc 1 59 rfl 3 rfl (by decide) (Nat.le_of_ble_eq_true rfl) [(0, _), (1, _), (2, _), (3, _)] rfl ?_
        refine go_goto 8 60 rfl (by decide) ?_
        cases h
        have g9 := ih _ hc
        exact g9
      · replace h := ite_f c h
        refine go_aload_n 17 rfl 0 rfl rfl ?_
        refine go_iload_n 18 rfl 1 rfl rfl ?_
        refine go_iload_n 19 rfl 2 rfl rfl ?_
        refine go_iload_n 20 rfl 3 rfl rfl ?_
        obtain ⟨r2, c, h⟩ := bd_inv h
        refine go_callV1 _ 21 rfl (e_M_gather c) mk_M_gather (by first | decide | exact ok0 (by omega) | exact ok1 (by omega) | exact ok2 (by omega) | exact ok7 (by omega)) rfl cv_M_119 rfl ⟨(Nat.le_of_ble_eq_true rfl), (Nat.le_of_ble_eq_true rfl)⟩ (Nat.le_of_ble_eq_true rfl) rfl ?_
        refine go_sipush 19683 22 rfl (by decide) ?_
        refine go_iconst 2 23 rfl (by decide) ?_
        refine go_iload_n 24 rfl 3 rfl rfl ?_
        refine go_imul 25 rfl ?_
        refine go_iconst 1 26 rfl (by decide) ?_
        refine go_iadd 27 rfl ?_
        refine go_imul 28 rfl ?_
        obtain ⟨_, c, h⟩ := bd_inv h
        cases c
        refine go_istore 29 rfl (Nat.le_of_ble_eq_true rfl) [(0, _), (1, _), (2, _), (3, _), (4, _)] rfl ?_
        refine go_iconst 0 30 rfl (by decide) ?_
        refine go_istore 31 rfl (Nat.le_of_ble_eq_true rfl) [(0, _), (1, _), (2, _), (3, _), (4, _), (5, _)] rfl ?_
        obtain ⟨r7, c, h⟩ := bd_inv h
        refine w_M_differs_48 _ _ _ _ (fun s2 e => ?_) (fun v e => ?_) _ _ c
        · subst e
          replace h := smr_l h
          refine go_iinc 1 59 rfl 3 rfl (by decide) (Nat.le_of_ble_eq_true rfl) [(0, _), (1, _), (2, _), (3, _), (4, _), (5, _)] rfl ?_
          refine go_goto 8 60 rfl (by decide) ?_
          cases h
          refine go_sub [0, 1, 2, 3] rfl ?_
          have g9 := ih _ hc
          exact g9
        · subst e
          replace h := smr_r h
          cases h
          obtain rfl := lpq_r hc
          exact kr _ rfl
set_option maxRecDepth 20000 in
theorem e_M_differs {l : Launch} {a1 : Int32} {a2 : Int32} {M : Mm} {r : Bool × Mm}  (h : m_M_differs a1 a2 M = some r) : Ev l X_M_differs [vr 8 0, vi a1, vi a2] M (fun v M2 => v = (some (vi (bI r.1))) ∧ M2 = r.2) := by
  refine Ev.of mk_M_differs [(0, vr 8 0), (1, vi a1), (2, vi a2)] (fun _ => rfl) (fun _ => (Nat.le_of_ble_eq_true rfl)) ?_
  unfold m_M_differs at h
  refine go_aload_n 0 rfl 0 rfl rfl ?_
  refine go_iload_n 1 rfl 1 rfl rfl ?_
  refine go_iload_n 2 rfl 2 rfl rfl ?_
  obtain ⟨r1, c, h⟩ := bd_inv h
  refine go_callV1 _ 3 rfl (e_M_begin c) mk_M_begin (by first | decide | exact ok0 (by omega) | exact ok1 (by omega) | exact ok2 (by omega) | exact ok7 (by omega)) rfl cv_M_116 rfl ⟨(Nat.le_of_ble_eq_true rfl), (Nat.le_of_ble_eq_true rfl)⟩ (Nat.le_of_ble_eq_true rfl) rfl ?_
  refine go_iconst 0 4 rfl (by decide) ?_
  refine go_istore_n 5 rfl rfl (Nat.le_of_ble_eq_true rfl) [(0, _), (1, _), (2, _), (3, _)] rfl ?_
  obtain ⟨r10, c, h⟩ := bd_inv h
  refine w_M_differs_8 _ _ (fun s2 e => ?_) (fun v e => ?_) _ _ c
  · subst e
    replace h := smr_l h
    refine go_iconst 0 61 rfl (by decide) ?_
    cases h
    exact go_ireturn 62 rfl rfl rfl ⟨rfl, rfl⟩
  · subst e
    replace h := smr_r h
    cases h
    exact ⟨rfl, rfl⟩
def X_M_look : MX := (⟨"OmegaDeskModel", "look", "(III)Z"⟩, prog_8_method_35_code, 9, some .boolean, { frames := 4, cells := 0, slots := 0, locals := 121 },
  [(0, .iconst 0, 1), (1, .istore 4, 3), (3, .iload 4, 5), (5, .iload_n 3, 6), (6, .if_icmp .ge 114, 9), (9, .iload_n 3, 10), (10, .iload 4, 12), (12, .isub, 13), (13, .istore 5, 15), (15, .iconst 0, 16), (16, .istore 6, 18), (18, .iload 6, 20), (20, .iload_n 3, 21), (21, .ishr, 22), (22, .ifCond .ne 92, 25), (25, .iload 6, 27), (27, .iload 5, 29), (29, .ishr, 30), (30, .istore 7, 32), (32, .iload 6, 34), (34, .iload 7, 36), (36, .iload 5, 38), (38, .ishl, 39), (39, .isub, 40), (40, .istore 8, 42), (42, .aload_n 0, 43), (43, .iload_n 1, 44), (44, .iload 4, 46), (46, .iload 7, 48), (48, .iload 5, 50), (50, .iload 8, 52), (52, .invokevirtual 89, 55), (55, .ifCond .eq 53, 58), (58, .aload_n 0, 59), (59, .iload_n 2, 60), (60, .iload 4, 62), (62, .iload 7, 64), (64, .iload 5, 66), (66, .iload 8, 68), (68, .invokevirtual 89, 71), (71, .ifCond .ne 37, 74), (74, .aload_n 0, 75), (75, .getfield 19, 78), (78, .iconst 0, 79), (79, .iload 4, 81), (81, .iastore, 82), (82, .aload_n 0, 83), (83, .getfield 19, 86), (86, .iconst 1, 87), (87, .iload 7, 89), (89, .iastore, 90), (90, .aload_n 0, 91), (91, .getfield 19, 94), (94, .iconst 2, 95), (95, .iload 5, 97), (97, .iastore, 98), (98, .aload_n 0, 99), (99, .getfield 19, 102), (102, .iconst 3, 103), (103, .iload 8, 105), (105, .iastore, 106), (106, .iconst 1, 107), (107, .ireturn, 108), (108, .iinc 6 1, 111), (111, .goto (-93), 114), (114, .iinc 4 1, 117), (117, .goto (-114), 120), (120, .iconst 0, 121), (121, .ireturn, 122)])
set_option maxRecDepth 20000 in
theorem mk_M_look : Mk X_M_look := ⟨by unfold TBk; decide +kernel, by decide +kernel, wb_693, ⟨by decide, by decide⟩, rfl, rfl, wb_6⟩
theorem fg_M_19 : FG "OmegaDeskModel" 19 8 5 := ⟨R_M, F_M, 12, rfl, by decide, uw_M, Or.inl wb_530⟩
def b_M_look_18 (c1 : Int32) (c2 : Int32) (c3 : Int32) (c4 : Int32) (c5 : Int32) (s : Int32 × Mm) : Option ((Int32 × Mm) ⊕ ((Int32 × Mm) ⊕ (Bool × Mm))) :=
  if (s.1 >>> (c3 &&& 31)) = 0 then
    bd (some (s.1 - ((s.1 >>> (c5 &&& 31)) <<< (c5 &&& 31)))) fun x1 =>
    bd (m_M_lasso c1 c4 (s.1 >>> (c5 &&& 31)) c5 x1 s.2) fun r2 =>
    if (bI r2) = 0 then
      some (Sum.inl ((s.1 + 1), s.2))
    else
      bd (m_M_lasso c2 c4 (s.1 >>> (c5 &&& 31)) c5 x1 s.2) fun r3 =>
      if (bI r3) = 0 then
        ck (inb (0 : Int32) (lenI 19)) <|
        bd (some (uI s.2 (1, 19) (0 : Int32).toNatClampNeg c4)) fun M4 =>
        ck (inb (1 : Int32) (lenI 19)) <|
        bd (some (uI M4 (1, 19) (1 : Int32).toNatClampNeg (s.1 >>> (c5 &&& 31)))) fun M5 =>
        ck (inb (2 : Int32) (lenI 19)) <|
        bd (some (uI M5 (1, 19) (2 : Int32).toNatClampNeg c5)) fun M6 =>
        ck (inb (3 : Int32) (lenI 19)) <|
        bd (some (uI M6 (1, 19) (3 : Int32).toNatClampNeg x1)) fun M7 =>
        some (Sum.inr (Sum.inr (true, M7)))
      else
        some (Sum.inl ((s.1 + 1), s.2))
  else
    some (Sum.inr (Sum.inl (s.1, s.2)))
def b_M_look_3 (c1 : Int32) (c2 : Int32) (c3 : Int32) (s : Int32 × Mm) : Option ((Int32 × Mm) ⊕ ((Int32 × Mm) ⊕ (Bool × Mm))) :=
  if c3 ≤ s.1 then
    some (Sum.inr (Sum.inl (s.1, s.2)))
  else
    bd (lp (b_M_look_18 c1 c2 c3 s.1 (c3 - s.1)) ((0 : Int32), s.2)) fun r8 =>
    smr r8 (fun v10 => some (Sum.inr (Sum.inr v10))) fun s9 =>
    some (Sum.inl ((s.1 + 1), s9.2))
def m_M_look (a1 : Int32) (a2 : Int32) (a3 : Int32) (M : Mm) : Option (Bool × Mm) :=
  bd (lp (b_M_look_3 a1 a2 a3) ((0 : Int32), M)) fun r11 =>
  smr r11 (fun v13 => some v13) fun s12 =>
  some (false, s12.2)
set_option maxRecDepth 20000 in
theorem w_M_look_18 {l : Launch} {post : Option PV → Mm → Prop} (c1 : Int32) (c2 : Int32) (c3 : Int32) (c4 : Int32) (c5 : Int32)  {r : (Int32 × Mm) ⊕ (Bool × Mm)} (kk : ∀ s2, r = Sum.inl s2 → Go l X_M_look post 114 [(0, vr 8 0), (1, vi c1), (2, vi c2), (3, vi c3), (4, vi c4), (5, vi c5), (6, vi s2.1)] [] s2.2) (kr : ∀ v, r = Sum.inr v → post (some (vi (bI v.1))) v.2) : ∀ (n : Nat) (s : Int32 × Mm), lpN (b_M_look_18 c1 c2 c3 c4 c5) n s = some r → Go l X_M_look post 18 [(0, vr 8 0), (1, vi c1), (2, vi c2), (3, vi c3), (4, vi c4), (5, vi c5), (6, vi s.1)] [] s.2 := by
  intro n
  induction n with
  | zero => intro s hc; exact (lpN_0 hc).elim
  | succ n ih =>
    intro s hc
    obtain ⟨q, h, hc⟩ := lpN_inv hc
    unfold b_M_look_18 at h
    refine go_iload 11 rfl 6 rfl ?_
    refine go_iload_n 12 rfl 3 rfl rfl ?_
    refine go_ishr 13 rfl ?_
    refine go_if_ne 114 14 rfl (by decide) (fun c => ?_) (fun c => ?_)
    · replace h := ite_f c h
      cases h
      obtain rfl := lpq_r hc
      exact kk _ rfl
    · replace h := ite_t c h
      refine go_iload 15 rfl 6 rfl ?_
      refine go_iload 16 rfl 5 rfl ?_
      refine go_ishr 17 rfl ?_
      refine go_istore 18 rfl (Nat.le_of_ble_eq_true rfl) [(0, _), (1, _), (2, _), (3, _), (4, _), (5, _), (6, _), (7, _)] rfl ?_
      refine go_iload 19 rfl 6 rfl ?_
      refine go_iload 20 rfl 7 rfl ?_
      refine go_iload 21 rfl 5 rfl ?_
      refine go_ishl 22 rfl ?_
      refine go_isub 23 rfl ?_
      obtain ⟨_, c, h⟩ := bd_inv h
      cases c
      refine go_istore 24 rfl (Nat.le_of_ble_eq_true rfl) [(0, _), (1, _), (2, _), (3, _), (4, _), (5, _), (6, _), (7, _), (8, _)] rfl ?_
      refine go_aload_n 25 rfl 0 rfl rfl ?_
      refine go_iload_n 26 rfl 1 rfl rfl ?_
      refine go_iload 27 rfl 4 rfl ?_
      refine go_iload 28 rfl 7 rfl ?_
      refine go_iload 29 rfl 5 rfl ?_
      refine go_iload 30 rfl 8 rfl ?_
      obtain ⟨r2, c, h⟩ := bd_inv h
      refine go_callV1 _ 31 rfl (e_M_lasso c) mk_M_lasso (by first | decide | exact ok0 (by omega) | exact ok1 (by omega) | exact ok2 (by omega) | exact ok7 (by omega)) rfl cv_M_89 rfl ⟨(Nat.le_of_ble_eq_true rfl), (Nat.le_of_ble_eq_true rfl)⟩ (Nat.le_of_ble_eq_true rfl) rfl ?_
      refine go_if_eq 108 32 rfl (by decide) (fun c => ?_) (fun c => ?_)
      · replace h := ite_t c h
        refine go_iinc 1 63 rfl 6 rfl (by decide) (Nat.le_of_ble_eq_true rfl) [(0, _), (1, _), (2, _), (3, _), (4, _), (5, _), (6, _), (7, _), (8, _)] rfl ?_
        refine go_goto 18 64 rfl (by decide) ?_
        cases h
        refine go_sub [0, 1, 2, 3, 4, 5, 6] rfl ?_
        have g9 := ih _ hc
        exact g9
      · replace h := ite_f c h
        refine go_aload_n 33 rfl 0 rfl rfl ?_
        refine go_iload_n 34 rfl 2 rfl rfl ?_
        refine go_iload 35 rfl 4 rfl ?_
        refine go_iload 36 rfl 7 rfl ?_
        refine go_iload 37 rfl 5 rfl ?_
        refine go_iload 38 rfl 8 rfl ?_
        obtain ⟨r3, c, h⟩ := bd_inv h
        refine go_callV1 _ 39 rfl (e_M_lasso c) mk_M_lasso (by first | decide | exact ok0 (by omega) | exact ok1 (by omega) | exact ok2 (by omega) | exact ok7 (by omega)) rfl cv_M_89 rfl ⟨(Nat.le_of_ble_eq_true rfl), (Nat.le_of_ble_eq_true rfl)⟩ (Nat.le_of_ble_eq_true rfl) rfl ?_
        refine go_if_ne 108 40 rfl (by decide) (fun c => ?_) (fun c => ?_)
        · replace h := ite_f c h
          refine go_iinc 1 63 rfl 6 rfl (by decide) (Nat.le_of_ble_eq_true rfl) [(0, _), (1, _), (2, _), (3, _), (4, _), (5, _), (6, _), (7, _), (8, _)] rfl ?_
          refine go_goto 18 64 rfl (by decide) ?_
          cases h
          refine go_sub [0, 1, 2, 3, 4, 5, 6] rfl ?_
          have g9 := ih _ hc
          exact g9
        · replace h := ite_t c h
          refine go_aload_n 41 rfl 0 rfl rfl ?_
          refine go_getfield 5 _ 42 rfl (by first | decide | exact ok0 (by omega) | exact ok1 (by omega) | exact ok2 (by omega) | exact ok7 (by omega)) rfl fg_M_19 rfl ?_
          refine go_iconst 0 43 rfl (by decide) ?_
          refine go_iload 44 rfl 4 rfl ?_
          obtain ⟨c, h⟩ := ck_inv h
          refine go_iastore 45 rfl (by first | decide | exact ok0 (by omega) | exact ok1 (by omega) | exact ok2 (by omega) | exact ok7 (by omega)) (inb_vp c) ?_
          obtain ⟨_, c, h⟩ := bd_inv h
          cases c
          refine go_aload_n 46 rfl 0 rfl rfl ?_
          refine go_getfield 5 _ 47 rfl (by first | decide | exact ok0 (by omega) | exact ok1 (by omega) | exact ok2 (by omega) | exact ok7 (by omega)) rfl fg_M_19 rfl ?_
          refine go_iconst 1 48 rfl (by decide) ?_
          refine go_iload 49 rfl 7 rfl ?_
          obtain ⟨c, h⟩ := ck_inv h
          refine go_iastore 50 rfl (by first | decide | exact ok0 (by omega) | exact ok1 (by omega) | exact ok2 (by omega) | exact ok7 (by omega)) (inb_vp c) ?_
          obtain ⟨_, c, h⟩ := bd_inv h
          cases c
          refine go_aload_n 51 rfl 0 rfl rfl ?_
          refine go_getfield 5 _ 52 rfl (by first | decide | exact ok0 (by omega) | exact ok1 (by omega) | exact ok2 (by omega) | exact ok7 (by omega)) rfl fg_M_19 rfl ?_
          refine go_iconst 2 53 rfl (by decide) ?_
          refine go_iload 54 rfl 5 rfl ?_
          obtain ⟨c, h⟩ := ck_inv h
          refine go_iastore 55 rfl (by first | decide | exact ok0 (by omega) | exact ok1 (by omega) | exact ok2 (by omega) | exact ok7 (by omega)) (inb_vp c) ?_
          obtain ⟨_, c, h⟩ := bd_inv h
          cases c
          refine go_aload_n 56 rfl 0 rfl rfl ?_
          refine go_getfield 5 _ 57 rfl (by first | decide | exact ok0 (by omega) | exact ok1 (by omega) | exact ok2 (by omega) | exact ok7 (by omega)) rfl fg_M_19 rfl ?_
          refine go_iconst 3 58 rfl (by decide) ?_
          refine go_iload 59 rfl 8 rfl ?_
          obtain ⟨c, h⟩ := ck_inv h
          refine go_iastore 60 rfl (by first | decide | exact ok0 (by omega) | exact ok1 (by omega) | exact ok2 (by omega) | exact ok7 (by omega)) (inb_vp c) ?_
          obtain ⟨_, c, h⟩ := bd_inv h
          cases c
          refine go_iconst 1 61 rfl (by decide) ?_
          cases h
          obtain rfl := lpq_r hc
          exact go_ireturn 62 rfl rfl rfl (kr _ rfl)
set_option maxRecDepth 20000 in
theorem w_M_look_3 {l : Launch} {post : Option PV → Mm → Prop} (c1 : Int32) (c2 : Int32) (c3 : Int32)  {r : (Int32 × Mm) ⊕ (Bool × Mm)} (kk : ∀ s2, r = Sum.inl s2 → Go l X_M_look post 120 [(0, vr 8 0), (1, vi c1), (2, vi c2), (3, vi c3), (4, vi s2.1)] [] s2.2) (kr : ∀ v, r = Sum.inr v → post (some (vi (bI v.1))) v.2) : ∀ (n : Nat) (s : Int32 × Mm), lpN (b_M_look_3 c1 c2 c3) n s = some r → Go l X_M_look post 3 [(0, vr 8 0), (1, vi c1), (2, vi c2), (3, vi c3), (4, vi s.1)] [] s.2 := by
  intro n
  induction n with
  | zero => intro s hc; exact (lpN_0 hc).elim
  | succ n ih =>
    intro s hc
    obtain ⟨q, h, hc⟩ := lpN_inv hc
    unfold b_M_look_3 at h
    refine go_iload 2 rfl 4 rfl ?_
    refine go_iload_n 3 rfl 3 rfl rfl ?_
    refine go_icmp_ge 120 4 rfl (by decide) (fun c => ?_) (fun c => ?_)
    · replace h := ite_t c h
      cases h
      obtain rfl := lpq_r hc
      exact kk _ rfl
    · replace h := ite_f c h
      refine go_iload_n 5 rfl 3 rfl rfl ?_
      refine go_iload 6 rfl 4 rfl ?_
      refine go_isub 7 rfl ?_
      refine go_istore 8 rfl (Nat.le_of_ble_eq_true rfl) [(0, _), (1, _), (2, _), (3, _), (4, _), (5, _)] rfl ?_
      refine go_iconst 0 9 rfl (by decide) ?_
      refine go_istore 10 rfl (Nat.le_of_ble_eq_true rfl) [(0, _), (1, _), (2, _), (3, _), (4, _), (5, _), (6, _)] rfl ?_
      obtain ⟨r8, c, h⟩ := bd_inv h
      refine w_M_look_18 _ _ _ _ _ (fun s2 e => ?_) (fun v e => ?_) _ _ c
      · subst e
        replace h := smr_l h
        refine go_iinc 1 65 rfl 4 rfl (by decide) (Nat.le_of_ble_eq_true rfl) [(0, _), (1, _), (2, _), (3, _), (4, _), (5, _), (6, _)] rfl ?_
        refine go_goto 3 66 rfl (by decide) ?_
        cases h
        refine go_sub [0, 1, 2, 3, 4] rfl ?_
        have g9 := ih _ hc
        exact g9
      · subst e
        replace h := smr_r h
        cases h
        obtain rfl := lpq_r hc
        exact kr _ rfl
set_option maxRecDepth 20000 in
theorem e_M_look {l : Launch} {a1 : Int32} {a2 : Int32} {a3 : Int32} {M : Mm} {r : Bool × Mm}  (h : m_M_look a1 a2 a3 M = some r) : Ev l X_M_look [vr 8 0, vi a1, vi a2, vi a3] M (fun v M2 => v = (some (vi (bI r.1))) ∧ M2 = r.2) := by
  refine Ev.of mk_M_look [(0, vr 8 0), (1, vi a1), (2, vi a2), (3, vi a3)] (fun _ => rfl) (fun _ => (Nat.le_of_ble_eq_true rfl)) ?_
  unfold m_M_look at h
  refine go_iconst 0 0 rfl (by decide) ?_
  refine go_istore 1 rfl (Nat.le_of_ble_eq_true rfl) [(0, _), (1, _), (2, _), (3, _), (4, _)] rfl ?_
  obtain ⟨r11, c, h⟩ := bd_inv h
  refine w_M_look_3 _ _ _ (fun s2 e => ?_) (fun v e => ?_) _ _ c
  · subst e
    replace h := smr_l h
    refine go_iconst 0 67 rfl (by decide) ?_
    cases h
    exact go_ireturn 68 rfl rfl rfl ⟨rfl, rfl⟩
  · subst e
    replace h := smr_r h
    cases h
    exact ⟨rfl, rfl⟩
def X_M_included : MX := (⟨"OmegaDeskModel", "included", "(II)Z"⟩, prog_8_method_36_code, 4, some .boolean, { frames := 5, cells := 0, slots := 0, locals := 149 },
  [(0, .aload_n 0, 1), (1, .iload_n 1, 2), (2, .bipush 6, 4), (4, .invokestatic 45, 7), (7, .ifCond .ne 12, 10), (10, .iload_n 2, 11), (11, .bipush 6, 13), (13, .invokestatic 45, 16), (16, .ifCond .eq 7, 19), (19, .iconst 1, 20), (20, .goto 18, 23), (23, .aload_n 0, 24), (24, .getfield 16, 27), (27, .iload_n 2, 28), (28, .iaload, 29), (29, .iconst 4, 30), (30, .if_icmp .ne 7, 33), (33, .iconst 2, 34), (34, .goto 4, 37), (37, .iconst 0, 38), (38, .putfield 41, 41), (41, .aload_n 0, 42), (42, .getfield 41, 45), (45, .ifCond .le 5, 48), (48, .iconst 0, 49), (49, .ireturn, 50), (50, .aload_n 0, 51), (51, .iconst 0, 52), (52, .putfield 132, 55), (55, .aload_n 0, 56), (56, .getfield 16, 59), (59, .iload_n 1, 60), (60, .iaload, 61), (61, .ifCond .eq 12, 64), (64, .aload_n 0, 65), (65, .iload_n 1, 66), (66, .iload_n 2, 67), (67, .invokevirtual 136, 70), (70, .ifCond .ne 5, 73), (73, .iconst 1, 74), (74, .ireturn, 75), (75, .iconst 1, 76), (76, .istore_n 3, 77), (77, .iload_n 3, 78), (78, .bipush 8, 80), (80, .if_icmp .gt 27, 83), (83, .aload_n 0, 84), (84, .getfield 132, 87), (87, .ifCond .ne 20, 90), (90, .aload_n 0, 91), (91, .aload_n 0, 92), (92, .iload_n 1, 93), (93, .iload_n 2, 94), (94, .iload_n 3, 95), (95, .invokevirtual 139, 98), (98, .putfield 132, 101), (101, .iinc 3 1, 104), (104, .goto (-27), 107), (107, .iconst 0, 108), (108, .ireturn, 109)])
set_option maxRecDepth 20000 in
theorem mk_M_included : Mk X_M_included := ⟨by unfold TBk; decide +kernel, by decide +kernel, wb_644, ⟨by decide, by decide⟩, rfl, rfl, wb_6⟩
theorem fp_M_132 : FP "OmegaDeskModel" 132 8 4 .boolean := ⟨R_M, F_M, 12, tf_M, rfl, by decide, uw_M, Or.inl wb_529, tf_M_ok, nf_M, rfl, by decide +kernel⟩
theorem cv_M_136 : CV "OmegaDeskModel" 136 X_M_differs 2 8 := ⟨Or.inl wb_645, ⟨wb_647, ws_M_differs⟩, by decide +kernel, F_M, 12, rfl⟩
theorem fg_M_132 : FG "OmegaDeskModel" 132 8 4 := ⟨R_M, F_M, 12, rfl, by decide, uw_M, Or.inl wb_529⟩
theorem cv_M_139 : CV "OmegaDeskModel" 139 X_M_look 3 8 := ⟨Or.inl wb_690, ⟨wb_692, ws_M_look⟩, by decide +kernel, F_M, 12, rfl⟩
def b_M_included_77 (c1 : Int32) (c2 : Int32) (s : Int32 × Mm) : Option ((Int32 × Mm) ⊕ (Int32 × Mm)) :=
  if (8 : Int32) < s.1 then
    some (Sum.inr (s.1, s.2))
  else
    if (s.2.1 (8, 0) 4) = 0 then
      bd (m_M_look c1 c2 s.1 s.2) fun r5 =>
      bd (some (uI r5.2 (8, 0) 4 (bI r5.1))) fun M6 =>
      some (Sum.inl ((s.1 + 1), M6))
    else
      some (Sum.inr (s.1, s.2))
def m_M_included (a1 : Int32) (a2 : Int32) (M : Mm) : Option (Bool × Mm) :=
  bd (m_M_out a1 (6 : Int32)) fun r1 =>
  if (bI r1) = 0 then
    bd (m_M_out a2 (6 : Int32)) fun r8 =>
    if (bI r8) = 0 then
      ck (inb a2 (lenI 18)) <|
      if (M.1 (1, 18) a2.toNatClampNeg) = (4 : Int32) then
        bd (some (uI M (8, 0) 0 (2 : Int32))) fun M13 =>
        if (M13.1 (8, 0) 0) ≤ 0 then
          bd (some (uI M13 (8, 0) 4 (0 : Int32))) fun M14 =>
          ck (inb a1 (lenI 18)) <|
          if (M14.1 (1, 18) a1.toNatClampNeg) = 0 then
            some (true, M14)
          else
            bd (m_M_differs a1 a2 M14) fun r15 =>
            if (bI r15.1) = 0 then
              some (true, r15.2)
            else
              bd (lp (b_M_included_77 a1 a2) ((1 : Int32), r15.2)) fun r16 =>
              some (false, r16.2)
        else
          some (false, M13)
      else
        bd (some (uI M (8, 0) 0 (0 : Int32))) fun M9 =>
        if (M9.1 (8, 0) 0) ≤ 0 then
          bd (some (uI M9 (8, 0) 4 (0 : Int32))) fun M10 =>
          ck (inb a1 (lenI 18)) <|
          if (M10.1 (1, 18) a1.toNatClampNeg) = 0 then
            some (true, M10)
          else
            bd (m_M_differs a1 a2 M10) fun r11 =>
            if (bI r11.1) = 0 then
              some (true, r11.2)
            else
              bd (lp (b_M_included_77 a1 a2) ((1 : Int32), r11.2)) fun r12 =>
              some (false, r12.2)
        else
          some (false, M9)
    else
      bd (some (uI M (8, 0) 0 (1 : Int32))) fun M17 =>
      if (M17.1 (8, 0) 0) ≤ 0 then
        bd (some (uI M17 (8, 0) 4 (0 : Int32))) fun M18 =>
        ck (inb a1 (lenI 18)) <|
        if (M18.1 (1, 18) a1.toNatClampNeg) = 0 then
          some (true, M18)
        else
          bd (m_M_differs a1 a2 M18) fun r19 =>
          if (bI r19.1) = 0 then
            some (true, r19.2)
          else
            bd (lp (b_M_included_77 a1 a2) ((1 : Int32), r19.2)) fun r20 =>
            some (false, r20.2)
      else
        some (false, M17)
  else
    bd (some (uI M (8, 0) 0 (1 : Int32))) fun M2 =>
    if (M2.1 (8, 0) 0) ≤ 0 then
      bd (some (uI M2 (8, 0) 4 (0 : Int32))) fun M3 =>
      ck (inb a1 (lenI 18)) <|
      if (M3.1 (1, 18) a1.toNatClampNeg) = 0 then
        some (true, M3)
      else
        bd (m_M_differs a1 a2 M3) fun r4 =>
        if (bI r4.1) = 0 then
          some (true, r4.2)
        else
          bd (lp (b_M_included_77 a1 a2) ((1 : Int32), r4.2)) fun r7 =>
          some (false, r7.2)
    else
      some (false, M2)
set_option maxRecDepth 20000 in
theorem w_M_included_77 {l : Launch} {post : Option PV → Mm → Prop} (c1 : Int32) (c2 : Int32)  {r : Int32 × Mm} (kk : Go l X_M_included post 107 [(0, vr 8 0), (1, vi c1), (2, vi c2), (3, vi r.1)] [] r.2) : ∀ (n : Nat) (s : Int32 × Mm), lpN (b_M_included_77 c1 c2) n s = some r → Go l X_M_included post 77 [(0, vr 8 0), (1, vi c1), (2, vi c2), (3, vi s.1)] [] s.2 := by
  intro n
  induction n with
  | zero => intro s hc; exact (lpN_0 hc).elim
  | succ n ih =>
    intro s hc
    obtain ⟨q, h, hc⟩ := lpN_inv hc
    unfold b_M_included_77 at h
    refine go_iload_n 43 rfl 3 rfl rfl ?_
    refine go_bipush 8 44 rfl (by decide) ?_
    refine go_icmp_gt 107 45 rfl (by decide) (fun c => ?_) (fun c => ?_)
    · replace h := ite_t c h
      cases h
      obtain rfl := lpq_r hc
      exact kk
    · replace h := ite_f c h
      refine go_aload_n 46 rfl 0 rfl rfl ?_
      refine go_getfield 4 _ 47 rfl (by first | decide | exact ok0 (by omega) | exact ok1 (by omega) | exact ok2 (by omega) | exact ok7 (by omega)) rfl fg_M_132 rfl ?_
      refine go_if_ne 107 48 rfl (by decide) (fun c => ?_) (fun c => ?_)
      · replace h := ite_f c h
        cases h
        obtain rfl := lpq_r hc
        exact kk
      · replace h := ite_t c h
        refine go_aload_n 49 rfl 0 rfl rfl ?_
        refine go_aload_n 50 rfl 0 rfl rfl ?_
        refine go_iload_n 51 rfl 1 rfl rfl ?_
        refine go_iload_n 52 rfl 2 rfl rfl ?_
        refine go_iload_n 53 rfl 3 rfl rfl ?_
        obtain ⟨r5, c, h⟩ := bd_inv h
        refine go_callV1 _ 54 rfl (e_M_look c) mk_M_look (by first | decide | exact ok0 (by omega) | exact ok1 (by omega) | exact ok2 (by omega) | exact ok7 (by omega)) rfl cv_M_139 rfl ⟨(Nat.le_of_ble_eq_true rfl), (Nat.le_of_ble_eq_true rfl)⟩ (Nat.le_of_ble_eq_true rfl) rfl ?_
        refine go_putfield 4 .boolean 55 rfl (by first | decide | exact ok0 (by omega) | exact ok1 (by omega) | exact ok2 (by omega) | exact ok7 (by omega)) rfl fp_M_132 (nbI _) (fbI _) (Nat.le_of_ble_eq_true rfl) rfl ?_
        obtain ⟨_, c, h⟩ := bd_inv h
        cases c
        refine go_iinc 1 56 rfl 3 rfl (by decide) (Nat.le_of_ble_eq_true rfl) [(0, _), (1, _), (2, _), (3, _)] rfl ?_
        refine go_goto 77 57 rfl (by decide) ?_
        cases h
        have g9 := ih _ hc
        exact g9
set_option maxRecDepth 20000 in
theorem e_M_included {l : Launch} {a1 : Int32} {a2 : Int32} {M : Mm} {r : Bool × Mm}  (h : m_M_included a1 a2 M = some r) : Ev l X_M_included [vr 8 0, vi a1, vi a2] M (fun v M2 => v = (some (vi (bI r.1))) ∧ M2 = r.2) := by
  refine Ev.of mk_M_included [(0, vr 8 0), (1, vi a1), (2, vi a2)] (fun _ => rfl) (fun _ => (Nat.le_of_ble_eq_true rfl)) ?_
  unfold m_M_included at h
  refine go_aload_n 0 rfl 0 rfl rfl ?_
  refine go_iload_n 1 rfl 1 rfl rfl ?_
  refine go_bipush 6 2 rfl (by decide) ?_
  obtain ⟨r1, c, h⟩ := bd_inv h
  refine go_callS1 _ 3 rfl (e_M_out c) mk_M_out cs_M_45 rfl ⟨(Nat.le_of_ble_eq_true rfl), (Nat.le_of_ble_eq_true rfl)⟩ (Nat.le_of_ble_eq_true rfl) rfl ?_
  refine go_if_ne 19 4 rfl (by decide) (fun c => ?_) (fun c => ?_)
  · replace h := ite_f c h
    refine go_iconst 1 9 rfl (by decide) ?_
    refine go_goto 38 10 rfl (by decide) ?_
    refine go_putfield 0 .int 20 rfl (by first | decide | exact ok0 (by omega) | exact ok1 (by omega) | exact ok2 (by omega) | exact ok7 (by omega)) rfl fp_M_41 rfl rfl (Nat.le_of_ble_eq_true rfl) rfl ?_
    obtain ⟨_, c, h⟩ := bd_inv h
    cases c
    refine go_aload_n 21 rfl 0 rfl rfl ?_
    refine go_getfield 0 _ 22 rfl (by first | decide | exact ok0 (by omega) | exact ok1 (by omega) | exact ok2 (by omega) | exact ok7 (by omega)) rfl fg_M_41 rfl ?_
    refine go_if_le 50 23 rfl (by decide) (fun c => ?_) (fun c => ?_)
    · replace h := ite_t c h
      refine go_aload_n 26 rfl 0 rfl rfl ?_
      refine go_iconst 0 27 rfl (by decide) ?_
      refine go_putfield 4 .boolean 28 rfl (by first | decide | exact ok0 (by omega) | exact ok1 (by omega) | exact ok2 (by omega) | exact ok7 (by omega)) rfl fp_M_132 rfl rfl (Nat.le_of_ble_eq_true rfl) rfl ?_
      obtain ⟨_, c, h⟩ := bd_inv h
      cases c
      refine go_aload_n 29 rfl 0 rfl rfl ?_
      refine go_getfield 3 _ 30 rfl (by first | decide | exact ok0 (by omega) | exact ok1 (by omega) | exact ok2 (by omega) | exact ok7 (by omega)) rfl fg_M_16 rfl ?_
      refine go_iload_n 31 rfl 1 rfl rfl ?_
      obtain ⟨c, h⟩ := ck_inv h
      refine go_iaload 32 rfl (by first | decide | exact ok0 (by omega) | exact ok1 (by omega) | exact ok2 (by omega) | exact ok7 (by omega)) (inb_vp c) ?_
      refine go_if_eq 73 33 rfl (by decide) (fun c => ?_) (fun c => ?_)
      · replace h := ite_t c h
        refine go_iconst 1 39 rfl (by decide) ?_
        cases h
        exact go_ireturn 40 rfl rfl rfl ⟨rfl, rfl⟩
      · replace h := ite_f c h
        refine go_aload_n 34 rfl 0 rfl rfl ?_
        refine go_iload_n 35 rfl 1 rfl rfl ?_
        refine go_iload_n 36 rfl 2 rfl rfl ?_
        obtain ⟨r4, c, h⟩ := bd_inv h
        refine go_callV1 _ 37 rfl (e_M_differs c) mk_M_differs (by first | decide | exact ok0 (by omega) | exact ok1 (by omega) | exact ok2 (by omega) | exact ok7 (by omega)) rfl cv_M_136 rfl ⟨(Nat.le_of_ble_eq_true rfl), (Nat.le_of_ble_eq_true rfl)⟩ (Nat.le_of_ble_eq_true rfl) rfl ?_
        refine go_if_ne 75 38 rfl (by decide) (fun c => ?_) (fun c => ?_)
        · replace h := ite_f c h
          refine go_iconst 1 41 rfl (by decide) ?_
          refine go_istore_n 42 rfl rfl (Nat.le_of_ble_eq_true rfl) [(0, _), (1, _), (2, _), (3, _)] rfl ?_
          obtain ⟨r7, c, h⟩ := bd_inv h
          refine w_M_included_77 _ _ ?_ _ _ c
          refine go_iconst 0 58 rfl (by decide) ?_
          cases h
          exact go_ireturn 59 rfl rfl rfl ⟨rfl, rfl⟩
        · replace h := ite_t c h
          refine go_iconst 1 39 rfl (by decide) ?_
          cases h
          exact go_ireturn 40 rfl rfl rfl ⟨rfl, rfl⟩
    · replace h := ite_f c h
      refine go_iconst 0 24 rfl (by decide) ?_
      cases h
      exact go_ireturn 25 rfl rfl rfl ⟨rfl, rfl⟩
  · replace h := ite_t c h
    refine go_iload_n 5 rfl 2 rfl rfl ?_
    refine go_bipush 6 6 rfl (by decide) ?_
    obtain ⟨r8, c, h⟩ := bd_inv h
    refine go_callS1 _ 7 rfl (e_M_out c) mk_M_out cs_M_45 rfl ⟨(Nat.le_of_ble_eq_true rfl), (Nat.le_of_ble_eq_true rfl)⟩ (Nat.le_of_ble_eq_true rfl) rfl ?_
    refine go_if_eq 23 8 rfl (by decide) (fun c => ?_) (fun c => ?_)
    · replace h := ite_t c h
      refine go_aload_n 11 rfl 0 rfl rfl ?_
      refine go_getfield 3 _ 12 rfl (by first | decide | exact ok0 (by omega) | exact ok1 (by omega) | exact ok2 (by omega) | exact ok7 (by omega)) rfl fg_M_16 rfl ?_
      refine go_iload_n 13 rfl 2 rfl rfl ?_
      obtain ⟨c, h⟩ := ck_inv h
      refine go_iaload 14 rfl (by first | decide | exact ok0 (by omega) | exact ok1 (by omega) | exact ok2 (by omega) | exact ok7 (by omega)) (inb_vp c) ?_
      refine go_iconst 4 15 rfl (by decide) ?_
      refine go_icmp_ne 37 16 rfl (by decide) (fun c => ?_) (fun c => ?_)
      · replace h := ite_f c h
        refine go_iconst 0 19 rfl (by decide) ?_
        refine go_putfield 0 .int 20 rfl (by first | decide | exact ok0 (by omega) | exact ok1 (by omega) | exact ok2 (by omega) | exact ok7 (by omega)) rfl fp_M_41 rfl rfl (Nat.le_of_ble_eq_true rfl) rfl ?_
        obtain ⟨_, c, h⟩ := bd_inv h
        cases c
        refine go_aload_n 21 rfl 0 rfl rfl ?_
        refine go_getfield 0 _ 22 rfl (by first | decide | exact ok0 (by omega) | exact ok1 (by omega) | exact ok2 (by omega) | exact ok7 (by omega)) rfl fg_M_41 rfl ?_
        refine go_if_le 50 23 rfl (by decide) (fun c => ?_) (fun c => ?_)
        · replace h := ite_t c h
          refine go_aload_n 26 rfl 0 rfl rfl ?_
          refine go_iconst 0 27 rfl (by decide) ?_
          refine go_putfield 4 .boolean 28 rfl (by first | decide | exact ok0 (by omega) | exact ok1 (by omega) | exact ok2 (by omega) | exact ok7 (by omega)) rfl fp_M_132 rfl rfl (Nat.le_of_ble_eq_true rfl) rfl ?_
          obtain ⟨_, c, h⟩ := bd_inv h
          cases c
          refine go_aload_n 29 rfl 0 rfl rfl ?_
          refine go_getfield 3 _ 30 rfl (by first | decide | exact ok0 (by omega) | exact ok1 (by omega) | exact ok2 (by omega) | exact ok7 (by omega)) rfl fg_M_16 rfl ?_
          refine go_iload_n 31 rfl 1 rfl rfl ?_
          obtain ⟨c, h⟩ := ck_inv h
          refine go_iaload 32 rfl (by first | decide | exact ok0 (by omega) | exact ok1 (by omega) | exact ok2 (by omega) | exact ok7 (by omega)) (inb_vp c) ?_
          refine go_if_eq 73 33 rfl (by decide) (fun c => ?_) (fun c => ?_)
          · replace h := ite_t c h
            refine go_iconst 1 39 rfl (by decide) ?_
            cases h
            exact go_ireturn 40 rfl rfl rfl ⟨rfl, rfl⟩
          · replace h := ite_f c h
            refine go_aload_n 34 rfl 0 rfl rfl ?_
            refine go_iload_n 35 rfl 1 rfl rfl ?_
            refine go_iload_n 36 rfl 2 rfl rfl ?_
            obtain ⟨r11, c, h⟩ := bd_inv h
            refine go_callV1 _ 37 rfl (e_M_differs c) mk_M_differs (by first | decide | exact ok0 (by omega) | exact ok1 (by omega) | exact ok2 (by omega) | exact ok7 (by omega)) rfl cv_M_136 rfl ⟨(Nat.le_of_ble_eq_true rfl), (Nat.le_of_ble_eq_true rfl)⟩ (Nat.le_of_ble_eq_true rfl) rfl ?_
            refine go_if_ne 75 38 rfl (by decide) (fun c => ?_) (fun c => ?_)
            · replace h := ite_f c h
              refine go_iconst 1 41 rfl (by decide) ?_
              refine go_istore_n 42 rfl rfl (Nat.le_of_ble_eq_true rfl) [(0, _), (1, _), (2, _), (3, _)] rfl ?_
              obtain ⟨r12, c, h⟩ := bd_inv h
              refine w_M_included_77 _ _ ?_ _ _ c
              refine go_iconst 0 58 rfl (by decide) ?_
              cases h
              exact go_ireturn 59 rfl rfl rfl ⟨rfl, rfl⟩
            · replace h := ite_t c h
              refine go_iconst 1 39 rfl (by decide) ?_
              cases h
              exact go_ireturn 40 rfl rfl rfl ⟨rfl, rfl⟩
        · replace h := ite_f c h
          refine go_iconst 0 24 rfl (by decide) ?_
          cases h
          exact go_ireturn 25 rfl rfl rfl ⟨rfl, rfl⟩
      · replace h := ite_t c h
        refine go_iconst 2 17 rfl (by decide) ?_
        refine go_goto 38 18 rfl (by decide) ?_
        refine go_putfield 0 .int 20 rfl (by first | decide | exact ok0 (by omega) | exact ok1 (by omega) | exact ok2 (by omega) | exact ok7 (by omega)) rfl fp_M_41 rfl rfl (Nat.le_of_ble_eq_true rfl) rfl ?_
        obtain ⟨_, c, h⟩ := bd_inv h
        cases c
        refine go_aload_n 21 rfl 0 rfl rfl ?_
        refine go_getfield 0 _ 22 rfl (by first | decide | exact ok0 (by omega) | exact ok1 (by omega) | exact ok2 (by omega) | exact ok7 (by omega)) rfl fg_M_41 rfl ?_
        refine go_if_le 50 23 rfl (by decide) (fun c => ?_) (fun c => ?_)
        · replace h := ite_t c h
          refine go_aload_n 26 rfl 0 rfl rfl ?_
          refine go_iconst 0 27 rfl (by decide) ?_
          refine go_putfield 4 .boolean 28 rfl (by first | decide | exact ok0 (by omega) | exact ok1 (by omega) | exact ok2 (by omega) | exact ok7 (by omega)) rfl fp_M_132 rfl rfl (Nat.le_of_ble_eq_true rfl) rfl ?_
          obtain ⟨_, c, h⟩ := bd_inv h
          cases c
          refine go_aload_n 29 rfl 0 rfl rfl ?_
          refine go_getfield 3 _ 30 rfl (by first | decide | exact ok0 (by omega) | exact ok1 (by omega) | exact ok2 (by omega) | exact ok7 (by omega)) rfl fg_M_16 rfl ?_
          refine go_iload_n 31 rfl 1 rfl rfl ?_
          obtain ⟨c, h⟩ := ck_inv h
          refine go_iaload 32 rfl (by first | decide | exact ok0 (by omega) | exact ok1 (by omega) | exact ok2 (by omega) | exact ok7 (by omega)) (inb_vp c) ?_
          refine go_if_eq 73 33 rfl (by decide) (fun c => ?_) (fun c => ?_)
          · replace h := ite_t c h
            refine go_iconst 1 39 rfl (by decide) ?_
            cases h
            exact go_ireturn 40 rfl rfl rfl ⟨rfl, rfl⟩
          · replace h := ite_f c h
            refine go_aload_n 34 rfl 0 rfl rfl ?_
            refine go_iload_n 35 rfl 1 rfl rfl ?_
            refine go_iload_n 36 rfl 2 rfl rfl ?_
            obtain ⟨r15, c, h⟩ := bd_inv h
            refine go_callV1 _ 37 rfl (e_M_differs c) mk_M_differs (by first | decide | exact ok0 (by omega) | exact ok1 (by omega) | exact ok2 (by omega) | exact ok7 (by omega)) rfl cv_M_136 rfl ⟨(Nat.le_of_ble_eq_true rfl), (Nat.le_of_ble_eq_true rfl)⟩ (Nat.le_of_ble_eq_true rfl) rfl ?_
            refine go_if_ne 75 38 rfl (by decide) (fun c => ?_) (fun c => ?_)
            · replace h := ite_f c h
              refine go_iconst 1 41 rfl (by decide) ?_
              refine go_istore_n 42 rfl rfl (Nat.le_of_ble_eq_true rfl) [(0, _), (1, _), (2, _), (3, _)] rfl ?_
              obtain ⟨r16, c, h⟩ := bd_inv h
              refine w_M_included_77 _ _ ?_ _ _ c
              refine go_iconst 0 58 rfl (by decide) ?_
              cases h
              exact go_ireturn 59 rfl rfl rfl ⟨rfl, rfl⟩
            · replace h := ite_t c h
              refine go_iconst 1 39 rfl (by decide) ?_
              cases h
              exact go_ireturn 40 rfl rfl rfl ⟨rfl, rfl⟩
        · replace h := ite_f c h
          refine go_iconst 0 24 rfl (by decide) ?_
          cases h
          exact go_ireturn 25 rfl rfl rfl ⟨rfl, rfl⟩
    · replace h := ite_f c h
      refine go_iconst 1 9 rfl (by decide) ?_
      refine go_goto 38 10 rfl (by decide) ?_
      refine go_putfield 0 .int 20 rfl (by first | decide | exact ok0 (by omega) | exact ok1 (by omega) | exact ok2 (by omega) | exact ok7 (by omega)) rfl fp_M_41 rfl rfl (Nat.le_of_ble_eq_true rfl) rfl ?_
      obtain ⟨_, c, h⟩ := bd_inv h
      cases c
      refine go_aload_n 21 rfl 0 rfl rfl ?_
      refine go_getfield 0 _ 22 rfl (by first | decide | exact ok0 (by omega) | exact ok1 (by omega) | exact ok2 (by omega) | exact ok7 (by omega)) rfl fg_M_41 rfl ?_
      refine go_if_le 50 23 rfl (by decide) (fun c => ?_) (fun c => ?_)
      · replace h := ite_t c h
        refine go_aload_n 26 rfl 0 rfl rfl ?_
        refine go_iconst 0 27 rfl (by decide) ?_
        refine go_putfield 4 .boolean 28 rfl (by first | decide | exact ok0 (by omega) | exact ok1 (by omega) | exact ok2 (by omega) | exact ok7 (by omega)) rfl fp_M_132 rfl rfl (Nat.le_of_ble_eq_true rfl) rfl ?_
        obtain ⟨_, c, h⟩ := bd_inv h
        cases c
        refine go_aload_n 29 rfl 0 rfl rfl ?_
        refine go_getfield 3 _ 30 rfl (by first | decide | exact ok0 (by omega) | exact ok1 (by omega) | exact ok2 (by omega) | exact ok7 (by omega)) rfl fg_M_16 rfl ?_
        refine go_iload_n 31 rfl 1 rfl rfl ?_
        obtain ⟨c, h⟩ := ck_inv h
        refine go_iaload 32 rfl (by first | decide | exact ok0 (by omega) | exact ok1 (by omega) | exact ok2 (by omega) | exact ok7 (by omega)) (inb_vp c) ?_
        refine go_if_eq 73 33 rfl (by decide) (fun c => ?_) (fun c => ?_)
        · replace h := ite_t c h
          refine go_iconst 1 39 rfl (by decide) ?_
          cases h
          exact go_ireturn 40 rfl rfl rfl ⟨rfl, rfl⟩
        · replace h := ite_f c h
          refine go_aload_n 34 rfl 0 rfl rfl ?_
          refine go_iload_n 35 rfl 1 rfl rfl ?_
          refine go_iload_n 36 rfl 2 rfl rfl ?_
          obtain ⟨r19, c, h⟩ := bd_inv h
          refine go_callV1 _ 37 rfl (e_M_differs c) mk_M_differs (by first | decide | exact ok0 (by omega) | exact ok1 (by omega) | exact ok2 (by omega) | exact ok7 (by omega)) rfl cv_M_136 rfl ⟨(Nat.le_of_ble_eq_true rfl), (Nat.le_of_ble_eq_true rfl)⟩ (Nat.le_of_ble_eq_true rfl) rfl ?_
          refine go_if_ne 75 38 rfl (by decide) (fun c => ?_) (fun c => ?_)
          · replace h := ite_f c h
            refine go_iconst 1 41 rfl (by decide) ?_
            refine go_istore_n 42 rfl rfl (Nat.le_of_ble_eq_true rfl) [(0, _), (1, _), (2, _), (3, _)] rfl ?_
            obtain ⟨r20, c, h⟩ := bd_inv h
            refine w_M_included_77 _ _ ?_ _ _ c
            refine go_iconst 0 58 rfl (by decide) ?_
            cases h
            exact go_ireturn 59 rfl rfl rfl ⟨rfl, rfl⟩
          · replace h := ite_t c h
            refine go_iconst 1 39 rfl (by decide) ?_
            cases h
            exact go_ireturn 40 rfl rfl rfl ⟨rfl, rfl⟩
      · replace h := ite_f c h
        refine go_iconst 0 24 rfl (by decide) ?_
        cases h
        exact go_ireturn 25 rfl rfl rfl ⟨rfl, rfl⟩
def X_M_witness : MX := (⟨"OmegaDeskModel", "witness", "(I)I"⟩, prog_8_method_37_code, 2, some .int, { frames := 1, cells := 0, slots := 0, locals := 21 },
  [(0, .aload_n 0, 1), (1, .iload_n 1, 2), (2, .iconst 4, 3), (3, .invokestatic 45, 6), (6, .ifCond .eq 7, 9), (9, .iconst 1, 10), (10, .goto 15, 13), (13, .aload_n 0, 14), (14, .getfield 132, 17), (17, .ifCond .eq 7, 20), (20, .iconst 0, 21), (21, .goto 4, 24), (24, .iconst 2, 25), (25, .putfield 41, 28), (28, .aload_n 0, 29), (29, .getfield 41, 32), (32, .ifCond .le 7, 35), (35, .iconst 0, 36), (36, .goto 9, 39), (39, .aload_n 0, 40), (40, .getfield 19, 43), (43, .iload_n 1, 44), (44, .iaload, 45), (45, .ireturn, 46)])
set_option maxRecDepth 20000 in
theorem mk_M_witness : Mk X_M_witness := ⟨by unfold TBk; decide +kernel, by decide +kernel, wb_697, ⟨by decide, by decide⟩, rfl, rfl, wb_6⟩
def m_M_witness (a1 : Int32) (M : Mm) : Option (Int32 × Mm) :=
  bd (m_M_out a1 (4 : Int32)) fun r1 =>
  if (bI r1) = 0 then
    if (M.1 (8, 0) 4) = 0 then
      bd (some (uI M (8, 0) 0 (2 : Int32))) fun M2 =>
      if (M2.1 (8, 0) 0) ≤ 0 then
        ck (inb a1 (lenI 19)) <|
        some ((M2.1 (1, 19) a1.toNatClampNeg), M2)
      else
        some ((0 : Int32), M2)
    else
      bd (some (uI M (8, 0) 0 (0 : Int32))) fun M3 =>
      if (M3.1 (8, 0) 0) ≤ 0 then
        ck (inb a1 (lenI 19)) <|
        some ((M3.1 (1, 19) a1.toNatClampNeg), M3)
      else
        some ((0 : Int32), M3)
  else
    bd (some (uI M (8, 0) 0 (1 : Int32))) fun M4 =>
    if (M4.1 (8, 0) 0) ≤ 0 then
      ck (inb a1 (lenI 19)) <|
      some ((M4.1 (1, 19) a1.toNatClampNeg), M4)
    else
      some ((0 : Int32), M4)
set_option maxRecDepth 20000 in
theorem e_M_witness {l : Launch} {a1 : Int32} {M : Mm} {r : Int32 × Mm}  (h : m_M_witness a1 M = some r) : Ev l X_M_witness [vr 8 0, vi a1] M (fun v M2 => v = (some (vi r.1)) ∧ M2 = r.2) := by
  refine Ev.of mk_M_witness [(0, vr 8 0), (1, vi a1)] (fun _ => rfl) (fun _ => (Nat.le_of_ble_eq_true rfl)) ?_
  unfold m_M_witness at h
  refine go_aload_n 0 rfl 0 rfl rfl ?_
  refine go_iload_n 1 rfl 1 rfl rfl ?_
  refine go_iconst 4 2 rfl (by decide) ?_
  obtain ⟨r1, c, h⟩ := bd_inv h
  refine go_callS1 _ 3 rfl (e_M_out c) mk_M_out cs_M_45 rfl ⟨(Nat.le_of_ble_eq_true rfl), (Nat.le_of_ble_eq_true rfl)⟩ (Nat.le_of_ble_eq_true rfl) rfl ?_
  refine go_if_eq 13 4 rfl (by decide) (fun c => ?_) (fun c => ?_)
  · replace h := ite_t c h
    refine go_aload_n 7 rfl 0 rfl rfl ?_
    refine go_getfield 4 _ 8 rfl (by first | decide | exact ok0 (by omega) | exact ok1 (by omega) | exact ok2 (by omega) | exact ok7 (by omega)) rfl fg_M_132 rfl ?_
    refine go_if_eq 24 9 rfl (by decide) (fun c => ?_) (fun c => ?_)
    · replace h := ite_t c h
      refine go_iconst 2 12 rfl (by decide) ?_
      refine go_putfield 0 .int 13 rfl (by first | decide | exact ok0 (by omega) | exact ok1 (by omega) | exact ok2 (by omega) | exact ok7 (by omega)) rfl fp_M_41 rfl rfl (Nat.le_of_ble_eq_true rfl) rfl ?_
      obtain ⟨_, c, h⟩ := bd_inv h
      cases c
      refine go_aload_n 14 rfl 0 rfl rfl ?_
      refine go_getfield 0 _ 15 rfl (by first | decide | exact ok0 (by omega) | exact ok1 (by omega) | exact ok2 (by omega) | exact ok7 (by omega)) rfl fg_M_41 rfl ?_
      refine go_if_le 39 16 rfl (by decide) (fun c => ?_) (fun c => ?_)
      · replace h := ite_t c h
        refine go_aload_n 19 rfl 0 rfl rfl ?_
        refine go_getfield 5 _ 20 rfl (by first | decide | exact ok0 (by omega) | exact ok1 (by omega) | exact ok2 (by omega) | exact ok7 (by omega)) rfl fg_M_19 rfl ?_
        refine go_iload_n 21 rfl 1 rfl rfl ?_
        obtain ⟨c, h⟩ := ck_inv h
        refine go_iaload 22 rfl (by first | decide | exact ok0 (by omega) | exact ok1 (by omega) | exact ok2 (by omega) | exact ok7 (by omega)) (inb_vp c) ?_
        cases h
        exact go_ireturn 23 rfl rfl rfl ⟨rfl, rfl⟩
      · replace h := ite_f c h
        refine go_iconst 0 17 rfl (by decide) ?_
        refine go_goto 45 18 rfl (by decide) ?_
        cases h
        exact go_ireturn 23 rfl rfl rfl ⟨rfl, rfl⟩
    · replace h := ite_f c h
      refine go_iconst 0 10 rfl (by decide) ?_
      refine go_goto 25 11 rfl (by decide) ?_
      refine go_putfield 0 .int 13 rfl (by first | decide | exact ok0 (by omega) | exact ok1 (by omega) | exact ok2 (by omega) | exact ok7 (by omega)) rfl fp_M_41 rfl rfl (Nat.le_of_ble_eq_true rfl) rfl ?_
      obtain ⟨_, c, h⟩ := bd_inv h
      cases c
      refine go_aload_n 14 rfl 0 rfl rfl ?_
      refine go_getfield 0 _ 15 rfl (by first | decide | exact ok0 (by omega) | exact ok1 (by omega) | exact ok2 (by omega) | exact ok7 (by omega)) rfl fg_M_41 rfl ?_
      refine go_if_le 39 16 rfl (by decide) (fun c => ?_) (fun c => ?_)
      · replace h := ite_t c h
        refine go_aload_n 19 rfl 0 rfl rfl ?_
        refine go_getfield 5 _ 20 rfl (by first | decide | exact ok0 (by omega) | exact ok1 (by omega) | exact ok2 (by omega) | exact ok7 (by omega)) rfl fg_M_19 rfl ?_
        refine go_iload_n 21 rfl 1 rfl rfl ?_
        obtain ⟨c, h⟩ := ck_inv h
        refine go_iaload 22 rfl (by first | decide | exact ok0 (by omega) | exact ok1 (by omega) | exact ok2 (by omega) | exact ok7 (by omega)) (inb_vp c) ?_
        cases h
        exact go_ireturn 23 rfl rfl rfl ⟨rfl, rfl⟩
      · replace h := ite_f c h
        refine go_iconst 0 17 rfl (by decide) ?_
        refine go_goto 45 18 rfl (by decide) ?_
        cases h
        exact go_ireturn 23 rfl rfl rfl ⟨rfl, rfl⟩
  · replace h := ite_f c h
    refine go_iconst 1 5 rfl (by decide) ?_
    refine go_goto 25 6 rfl (by decide) ?_
    refine go_putfield 0 .int 13 rfl (by first | decide | exact ok0 (by omega) | exact ok1 (by omega) | exact ok2 (by omega) | exact ok7 (by omega)) rfl fp_M_41 rfl rfl (Nat.le_of_ble_eq_true rfl) rfl ?_
    obtain ⟨_, c, h⟩ := bd_inv h
    cases c
    refine go_aload_n 14 rfl 0 rfl rfl ?_
    refine go_getfield 0 _ 15 rfl (by first | decide | exact ok0 (by omega) | exact ok1 (by omega) | exact ok2 (by omega) | exact ok7 (by omega)) rfl fg_M_41 rfl ?_
    refine go_if_le 39 16 rfl (by decide) (fun c => ?_) (fun c => ?_)
    · replace h := ite_t c h
      refine go_aload_n 19 rfl 0 rfl rfl ?_
      refine go_getfield 5 _ 20 rfl (by first | decide | exact ok0 (by omega) | exact ok1 (by omega) | exact ok2 (by omega) | exact ok7 (by omega)) rfl fg_M_19 rfl ?_
      refine go_iload_n 21 rfl 1 rfl rfl ?_
      obtain ⟨c, h⟩ := ck_inv h
      refine go_iaload 22 rfl (by first | decide | exact ok0 (by omega) | exact ok1 (by omega) | exact ok2 (by omega) | exact ok7 (by omega)) (inb_vp c) ?_
      cases h
      exact go_ireturn 23 rfl rfl rfl ⟨rfl, rfl⟩
    · replace h := ite_f c h
      refine go_iconst 0 17 rfl (by decide) ?_
      refine go_goto 45 18 rfl (by decide) ?_
      cases h
      exact go_ireturn 23 rfl rfl rfl ⟨rfl, rfl⟩
def X_M_states : MX := (⟨"OmegaDeskModel", "states", "(I)I"⟩, prog_8_method_38_code, 2, some .int, { frames := 1, cells := 0, slots := 0, locals := 21 },
  [(0, .aload_n 0, 1), (1, .iconst 0, 2), (2, .putfield 41, 5), (5, .iload_n 1, 6), (6, .bipush 6, 8), (8, .invokestatic 45, 11), (11, .ifCond .eq 11, 14), (14, .aload_n 0, 15), (15, .iconst 1, 16), (16, .invokevirtual 142, 19), (19, .goto 9, 22), (22, .aload_n 0, 23), (23, .getfield 16, 26), (26, .iload_n 1, 27), (27, .iaload, 28), (28, .ireturn, 29)])
set_option maxRecDepth 20000 in
theorem mk_M_states : Mk X_M_states := ⟨by unfold TBk; decide +kernel, by decide +kernel, wb_701, ⟨by decide, by decide⟩, rfl, rfl, wb_6⟩
theorem cv_M_142 : CV "OmegaDeskModel" 142 X_M_fail 1 8 := ⟨Or.inl wb_702, ⟨wb_704, ws_M_fail⟩, by decide +kernel, F_M, 12, rfl⟩
def m_M_states (a1 : Int32) (M : Mm) : Option (Int32 × Mm) :=
  bd (some (uI M (8, 0) 0 (0 : Int32))) fun M1 =>
  bd (m_M_out a1 (6 : Int32)) fun r2 =>
  if (bI r2) = 0 then
    ck (inb a1 (lenI 18)) <|
    some ((M1.1 (1, 18) a1.toNatClampNeg), M1)
  else
    bd (m_M_fail (1 : Int32) M1) fun r3 =>
    some (r3.1, r3.2)
set_option maxRecDepth 20000 in
theorem e_M_states {l : Launch} {a1 : Int32} {M : Mm} {r : Int32 × Mm}  (h : m_M_states a1 M = some r) : Ev l X_M_states [vr 8 0, vi a1] M (fun v M2 => v = (some (vi r.1)) ∧ M2 = r.2) := by
  refine Ev.of mk_M_states [(0, vr 8 0), (1, vi a1)] (fun _ => rfl) (fun _ => (Nat.le_of_ble_eq_true rfl)) ?_
  unfold m_M_states at h
  refine go_aload_n 0 rfl 0 rfl rfl ?_
  refine go_iconst 0 1 rfl (by decide) ?_
  refine go_putfield 0 .int 2 rfl (by first | decide | exact ok0 (by omega) | exact ok1 (by omega) | exact ok2 (by omega) | exact ok7 (by omega)) rfl fp_M_41 rfl rfl (Nat.le_of_ble_eq_true rfl) rfl ?_
  obtain ⟨_, c, h⟩ := bd_inv h
  cases c
  refine go_iload_n 3 rfl 1 rfl rfl ?_
  refine go_bipush 6 4 rfl (by decide) ?_
  obtain ⟨r2, c, h⟩ := bd_inv h
  refine go_callS1 _ 5 rfl (e_M_out c) mk_M_out cs_M_45 rfl ⟨(Nat.le_of_ble_eq_true rfl), (Nat.le_of_ble_eq_true rfl)⟩ (Nat.le_of_ble_eq_true rfl) rfl ?_
  refine go_if_eq 22 6 rfl (by decide) (fun c => ?_) (fun c => ?_)
  · replace h := ite_t c h
    refine go_aload_n 11 rfl 0 rfl rfl ?_
    refine go_getfield 3 _ 12 rfl (by first | decide | exact ok0 (by omega) | exact ok1 (by omega) | exact ok2 (by omega) | exact ok7 (by omega)) rfl fg_M_16 rfl ?_
    refine go_iload_n 13 rfl 1 rfl rfl ?_
    obtain ⟨c, h⟩ := ck_inv h
    refine go_iaload 14 rfl (by first | decide | exact ok0 (by omega) | exact ok1 (by omega) | exact ok2 (by omega) | exact ok7 (by omega)) (inb_vp c) ?_
    cases h
    exact go_ireturn 15 rfl rfl rfl ⟨rfl, rfl⟩
  · replace h := ite_f c h
    refine go_aload_n 7 rfl 0 rfl rfl ?_
    refine go_iconst 1 8 rfl (by decide) ?_
    obtain ⟨r3, c, h⟩ := bd_inv h
    refine go_callV1 _ 9 rfl (e_M_fail c) mk_M_fail (by first | decide | exact ok0 (by omega) | exact ok1 (by omega) | exact ok2 (by omega) | exact ok7 (by omega)) rfl cv_M_142 rfl ⟨(Nat.le_of_ble_eq_true rfl), (Nat.le_of_ble_eq_true rfl)⟩ (Nat.le_of_ble_eq_true rfl) rfl ?_
    refine go_goto 28 10 rfl (by decide) ?_
    cases h
    exact go_ireturn 15 rfl rfl rfl ⟨rfl, rfl⟩
def X_M_good : MX := (⟨"OmegaDeskModel", "good", "(II)Z"⟩, prog_8_method_39_code, 3, some .boolean, { frames := 1, cells := 0, slots := 0, locals := 21 },
  [(0, .aload_n 0, 1), (1, .iload_n 1, 2), (2, .bipush 6, 4), (4, .invokestatic 45, 7), (7, .ifCond .ne 16, 10), (10, .iload_n 2, 11), (11, .aload_n 0, 12), (12, .getfield 16, 15), (15, .iload_n 1, 16), (16, .iaload, 17), (17, .invokestatic 45, 20), (20, .ifCond .eq 7, 23), (23, .iconst 1, 24), (24, .goto 4, 27), (27, .iconst 0, 28), (28, .putfield 41, 31), (31, .aload_n 0, 32), (32, .getfield 41, 35), (35, .ifCond .ne 21, 38), (38, .aload_n 0, 39), (39, .getfield 13, 42), (42, .iload_n 1, 43), (43, .iaload, 44), (44, .iload_n 2, 45), (45, .ishr, 46), (46, .iconst 1, 47), (47, .iand, 48), (48, .iconst 1, 49), (49, .if_icmp .ne 7, 52), (52, .iconst 1, 53), (53, .goto 4, 56), (56, .iconst 0, 57), (57, .ireturn, 58)])
set_option maxRecDepth 20000 in
theorem mk_M_good : Mk X_M_good := ⟨by unfold TBk; decide +kernel, by decide +kernel, wb_709, ⟨by decide, by decide⟩, rfl, rfl, wb_6⟩
def m_M_good (a1 : Int32) (a2 : Int32) (M : Mm) : Option (Bool × Mm) :=
  bd (m_M_out a1 (6 : Int32)) fun r1 =>
  if (bI r1) = 0 then
    ck (inb a1 (lenI 18)) <|
    bd (m_M_out a2 (M.1 (1, 18) a1.toNatClampNeg)) fun r3 =>
    if (bI r3) = 0 then
      bd (some (uI M (8, 0) 0 (0 : Int32))) fun M4 =>
      if (M4.1 (8, 0) 0) = 0 then
        ck (inb a1 (lenI 17)) <|
        if (((M4.1 (1, 17) a1.toNatClampNeg) >>> (a2 &&& 31)) &&& (1 : Int32)) = (1 : Int32) then
          some (true, M4)
        else
          some (false, M4)
      else
        some (false, M4)
    else
      bd (some (uI M (8, 0) 0 (1 : Int32))) fun M5 =>
      if (M5.1 (8, 0) 0) = 0 then
        ck (inb a1 (lenI 17)) <|
        if (((M5.1 (1, 17) a1.toNatClampNeg) >>> (a2 &&& 31)) &&& (1 : Int32)) = (1 : Int32) then
          some (true, M5)
        else
          some (false, M5)
      else
        some (false, M5)
  else
    bd (some (uI M (8, 0) 0 (1 : Int32))) fun M2 =>
    if (M2.1 (8, 0) 0) = 0 then
      ck (inb a1 (lenI 17)) <|
      if (((M2.1 (1, 17) a1.toNatClampNeg) >>> (a2 &&& 31)) &&& (1 : Int32)) = (1 : Int32) then
        some (true, M2)
      else
        some (false, M2)
    else
      some (false, M2)
set_option maxRecDepth 20000 in
theorem e_M_good {l : Launch} {a1 : Int32} {a2 : Int32} {M : Mm} {r : Bool × Mm}  (h : m_M_good a1 a2 M = some r) : Ev l X_M_good [vr 8 0, vi a1, vi a2] M (fun v M2 => v = (some (vi (bI r.1))) ∧ M2 = r.2) := by
  refine Ev.of mk_M_good [(0, vr 8 0), (1, vi a1), (2, vi a2)] (fun _ => rfl) (fun _ => (Nat.le_of_ble_eq_true rfl)) ?_
  unfold m_M_good at h
  refine go_aload_n 0 rfl 0 rfl rfl ?_
  refine go_iload_n 1 rfl 1 rfl rfl ?_
  refine go_bipush 6 2 rfl (by decide) ?_
  obtain ⟨r1, c, h⟩ := bd_inv h
  refine go_callS1 _ 3 rfl (e_M_out c) mk_M_out cs_M_45 rfl ⟨(Nat.le_of_ble_eq_true rfl), (Nat.le_of_ble_eq_true rfl)⟩ (Nat.le_of_ble_eq_true rfl) rfl ?_
  refine go_if_ne 23 4 rfl (by decide) (fun c => ?_) (fun c => ?_)
  · replace h := ite_f c h
    refine go_iconst 1 12 rfl (by decide) ?_
    refine go_goto 28 13 rfl (by decide) ?_
    refine go_putfield 0 .int 15 rfl (by first | decide | exact ok0 (by omega) | exact ok1 (by omega) | exact ok2 (by omega) | exact ok7 (by omega)) rfl fp_M_41 rfl rfl (Nat.le_of_ble_eq_true rfl) rfl ?_
    obtain ⟨_, c, h⟩ := bd_inv h
    cases c
    refine go_aload_n 16 rfl 0 rfl rfl ?_
    refine go_getfield 0 _ 17 rfl (by first | decide | exact ok0 (by omega) | exact ok1 (by omega) | exact ok2 (by omega) | exact ok7 (by omega)) rfl fg_M_41 rfl ?_
    refine go_if_ne 56 18 rfl (by decide) (fun c => ?_) (fun c => ?_)
    · replace h := ite_f c h
      refine go_iconst 0 31 rfl (by decide) ?_
      cases h
      exact go_ireturn 32 rfl rfl rfl ⟨rfl, rfl⟩
    · replace h := ite_t c h
      refine go_aload_n 19 rfl 0 rfl rfl ?_
      refine go_getfield 2 _ 20 rfl (by first | decide | exact ok0 (by omega) | exact ok1 (by omega) | exact ok2 (by omega) | exact ok7 (by omega)) rfl fg_M_13 rfl ?_
      refine go_iload_n 21 rfl 1 rfl rfl ?_
      obtain ⟨c, h⟩ := ck_inv h
      refine go_iaload 22 rfl (by first | decide | exact ok0 (by omega) | exact ok1 (by omega) | exact ok2 (by omega) | exact ok7 (by omega)) (inb_vp c) ?_
      refine go_iload_n 23 rfl 2 rfl rfl ?_
      refine go_ishr 24 rfl ?_
      refine go_iconst 1 25 rfl (by decide) ?_
      refine go_iand 26 rfl ?_
      refine go_iconst 1 27 rfl (by decide) ?_
      refine go_icmp_ne 56 28 rfl (by decide) (fun c => ?_) (fun c => ?_)
      · replace h := ite_f c h
        refine go_iconst 0 31 rfl (by decide) ?_
        cases h
        exact go_ireturn 32 rfl rfl rfl ⟨rfl, rfl⟩
      · replace h := ite_t c h
        refine go_iconst 1 29 rfl (by decide) ?_
        refine go_goto 57 30 rfl (by decide) ?_
        cases h
        exact go_ireturn 32 rfl rfl rfl ⟨rfl, rfl⟩
  · replace h := ite_t c h
    refine go_iload_n 5 rfl 2 rfl rfl ?_
    refine go_aload_n 6 rfl 0 rfl rfl ?_
    refine go_getfield 3 _ 7 rfl (by first | decide | exact ok0 (by omega) | exact ok1 (by omega) | exact ok2 (by omega) | exact ok7 (by omega)) rfl fg_M_16 rfl ?_
    refine go_iload_n 8 rfl 1 rfl rfl ?_
    obtain ⟨c, h⟩ := ck_inv h
    refine go_iaload 9 rfl (by first | decide | exact ok0 (by omega) | exact ok1 (by omega) | exact ok2 (by omega) | exact ok7 (by omega)) (inb_vp c) ?_
    obtain ⟨r3, c, h⟩ := bd_inv h
    refine go_callS1 _ 10 rfl (e_M_out c) mk_M_out cs_M_45 rfl ⟨(Nat.le_of_ble_eq_true rfl), (Nat.le_of_ble_eq_true rfl)⟩ (Nat.le_of_ble_eq_true rfl) rfl ?_
    refine go_if_eq 27 11 rfl (by decide) (fun c => ?_) (fun c => ?_)
    · replace h := ite_t c h
      refine go_iconst 0 14 rfl (by decide) ?_
      refine go_putfield 0 .int 15 rfl (by first | decide | exact ok0 (by omega) | exact ok1 (by omega) | exact ok2 (by omega) | exact ok7 (by omega)) rfl fp_M_41 rfl rfl (Nat.le_of_ble_eq_true rfl) rfl ?_
      obtain ⟨_, c, h⟩ := bd_inv h
      cases c
      refine go_aload_n 16 rfl 0 rfl rfl ?_
      refine go_getfield 0 _ 17 rfl (by first | decide | exact ok0 (by omega) | exact ok1 (by omega) | exact ok2 (by omega) | exact ok7 (by omega)) rfl fg_M_41 rfl ?_
      refine go_if_ne 56 18 rfl (by decide) (fun c => ?_) (fun c => ?_)
      · replace h := ite_f c h
        refine go_iconst 0 31 rfl (by decide) ?_
        cases h
        exact go_ireturn 32 rfl rfl rfl ⟨rfl, rfl⟩
      · replace h := ite_t c h
        refine go_aload_n 19 rfl 0 rfl rfl ?_
        refine go_getfield 2 _ 20 rfl (by first | decide | exact ok0 (by omega) | exact ok1 (by omega) | exact ok2 (by omega) | exact ok7 (by omega)) rfl fg_M_13 rfl ?_
        refine go_iload_n 21 rfl 1 rfl rfl ?_
        obtain ⟨c, h⟩ := ck_inv h
        refine go_iaload 22 rfl (by first | decide | exact ok0 (by omega) | exact ok1 (by omega) | exact ok2 (by omega) | exact ok7 (by omega)) (inb_vp c) ?_
        refine go_iload_n 23 rfl 2 rfl rfl ?_
        refine go_ishr 24 rfl ?_
        refine go_iconst 1 25 rfl (by decide) ?_
        refine go_iand 26 rfl ?_
        refine go_iconst 1 27 rfl (by decide) ?_
        refine go_icmp_ne 56 28 rfl (by decide) (fun c => ?_) (fun c => ?_)
        · replace h := ite_f c h
          refine go_iconst 0 31 rfl (by decide) ?_
          cases h
          exact go_ireturn 32 rfl rfl rfl ⟨rfl, rfl⟩
        · replace h := ite_t c h
          refine go_iconst 1 29 rfl (by decide) ?_
          refine go_goto 57 30 rfl (by decide) ?_
          cases h
          exact go_ireturn 32 rfl rfl rfl ⟨rfl, rfl⟩
    · replace h := ite_f c h
      refine go_iconst 1 12 rfl (by decide) ?_
      refine go_goto 28 13 rfl (by decide) ?_
      refine go_putfield 0 .int 15 rfl (by first | decide | exact ok0 (by omega) | exact ok1 (by omega) | exact ok2 (by omega) | exact ok7 (by omega)) rfl fp_M_41 rfl rfl (Nat.le_of_ble_eq_true rfl) rfl ?_
      obtain ⟨_, c, h⟩ := bd_inv h
      cases c
      refine go_aload_n 16 rfl 0 rfl rfl ?_
      refine go_getfield 0 _ 17 rfl (by first | decide | exact ok0 (by omega) | exact ok1 (by omega) | exact ok2 (by omega) | exact ok7 (by omega)) rfl fg_M_41 rfl ?_
      refine go_if_ne 56 18 rfl (by decide) (fun c => ?_) (fun c => ?_)
      · replace h := ite_f c h
        refine go_iconst 0 31 rfl (by decide) ?_
        cases h
        exact go_ireturn 32 rfl rfl rfl ⟨rfl, rfl⟩
      · replace h := ite_t c h
        refine go_aload_n 19 rfl 0 rfl rfl ?_
        refine go_getfield 2 _ 20 rfl (by first | decide | exact ok0 (by omega) | exact ok1 (by omega) | exact ok2 (by omega) | exact ok7 (by omega)) rfl fg_M_13 rfl ?_
        refine go_iload_n 21 rfl 1 rfl rfl ?_
        obtain ⟨c, h⟩ := ck_inv h
        refine go_iaload 22 rfl (by first | decide | exact ok0 (by omega) | exact ok1 (by omega) | exact ok2 (by omega) | exact ok7 (by omega)) (inb_vp c) ?_
        refine go_iload_n 23 rfl 2 rfl rfl ?_
        refine go_ishr 24 rfl ?_
        refine go_iconst 1 25 rfl (by decide) ?_
        refine go_iand 26 rfl ?_
        refine go_iconst 1 27 rfl (by decide) ?_
        refine go_icmp_ne 56 28 rfl (by decide) (fun c => ?_) (fun c => ?_)
        · replace h := ite_f c h
          refine go_iconst 0 31 rfl (by decide) ?_
          cases h
          exact go_ireturn 32 rfl rfl rfl ⟨rfl, rfl⟩
        · replace h := ite_t c h
          refine go_iconst 1 29 rfl (by decide) ?_
          refine go_goto 57 30 rfl (by decide) ?_
          cases h
          exact go_ireturn 32 rfl rfl rfl ⟨rfl, rfl⟩
def X_M_has : MX := (⟨"OmegaDeskModel", "has", "(IIII)Z"⟩, prog_8_method_40_code, 5, some .boolean, { frames := 2, cells := 0, slots := 0, locals := 45 },
  [(0, .aload_n 0, 1), (1, .aload_n 0, 2), (2, .iload_n 1, 3), (3, .iload_n 2, 4), (4, .iload_n 3, 5), (5, .iload 4, 7), (7, .invokevirtual 53, 10), (10, .ifCond .eq 7, 13), (13, .iconst 0, 14), (14, .goto 4, 17), (17, .iconst 1, 18), (18, .putfield 41, 21), (21, .aload_n 0, 22), (22, .getfield 41, 25), (25, .ifCond .ne 31, 28), (28, .aload_n 0, 29), (29, .getfield 7, 32), (32, .bipush 8, 34), (34, .iload_n 1, 35), (35, .imul, 36), (36, .iconst 4, 37), (37, .iload_n 3, 38), (38, .imul, 39), (39, .iadd, 40), (40, .iload_n 2, 41), (41, .iadd, 42), (42, .iaload, 43), (43, .iload 4, 45), (45, .ishr, 46), (46, .iconst 1, 47), (47, .iand, 48), (48, .iconst 1, 49), (49, .if_icmp .ne 7, 52), (52, .iconst 1, 53), (53, .goto 4, 56), (56, .iconst 0, 57), (57, .ireturn, 58)])
set_option maxRecDepth 20000 in
theorem mk_M_has : Mk X_M_has := ⟨by unfold TBk; decide +kernel, by decide +kernel, wb_713, ⟨by decide, by decide⟩, rfl, rfl, wb_6⟩
def m_M_has (a1 : Int32) (a2 : Int32) (a3 : Int32) (a4 : Int32) (M : Mm) : Option (Bool × Mm) :=
  bd (m_M_isEdge a1 a2 a3 a4 M) fun r1 =>
  if (bI r1) = 0 then
    bd (some (uI M (8, 0) 0 (1 : Int32))) fun M2 =>
    if (M2.1 (8, 0) 0) = 0 then
      ck (inb ((((8 : Int32) * a1) + ((4 : Int32) * a3)) + a2) (lenI 16)) <|
      if (((M2.1 (1, 16) ((((8 : Int32) * a1) + ((4 : Int32) * a3)) + a2).toNatClampNeg) >>> (a4 &&& 31)) &&& (1 : Int32)) = (1 : Int32) then
        some (true, M2)
      else
        some (false, M2)
    else
      some (false, M2)
  else
    bd (some (uI M (8, 0) 0 (0 : Int32))) fun M3 =>
    if (M3.1 (8, 0) 0) = 0 then
      ck (inb ((((8 : Int32) * a1) + ((4 : Int32) * a3)) + a2) (lenI 16)) <|
      if (((M3.1 (1, 16) ((((8 : Int32) * a1) + ((4 : Int32) * a3)) + a2).toNatClampNeg) >>> (a4 &&& 31)) &&& (1 : Int32)) = (1 : Int32) then
        some (true, M3)
      else
        some (false, M3)
    else
      some (false, M3)
set_option maxRecDepth 20000 in
theorem e_M_has {l : Launch} {a1 : Int32} {a2 : Int32} {a3 : Int32} {a4 : Int32} {M : Mm} {r : Bool × Mm}  (h : m_M_has a1 a2 a3 a4 M = some r) : Ev l X_M_has [vr 8 0, vi a1, vi a2, vi a3, vi a4] M (fun v M2 => v = (some (vi (bI r.1))) ∧ M2 = r.2) := by
  refine Ev.of mk_M_has [(0, vr 8 0), (1, vi a1), (2, vi a2), (3, vi a3), (4, vi a4)] (fun _ => rfl) (fun _ => (Nat.le_of_ble_eq_true rfl)) ?_
  unfold m_M_has at h
  refine go_aload_n 0 rfl 0 rfl rfl ?_
  refine go_aload_n 1 rfl 0 rfl rfl ?_
  refine go_iload_n 2 rfl 1 rfl rfl ?_
  refine go_iload_n 3 rfl 2 rfl rfl ?_
  refine go_iload_n 4 rfl 3 rfl rfl ?_
  refine go_iload 5 rfl 4 rfl ?_
  obtain ⟨r1, c, h⟩ := bd_inv h
  refine go_callV1 _ 6 rfl (e_M_isEdge c) mk_M_isEdge (by first | decide | exact ok0 (by omega) | exact ok1 (by omega) | exact ok2 (by omega) | exact ok7 (by omega)) rfl cv_M_53 rfl ⟨(Nat.le_of_ble_eq_true rfl), (Nat.le_of_ble_eq_true rfl)⟩ (Nat.le_of_ble_eq_true rfl) rfl ?_
  refine go_if_eq 17 7 rfl (by decide) (fun c => ?_) (fun c => ?_)
  · replace h := ite_t c h
    refine go_iconst 1 10 rfl (by decide) ?_
    refine go_putfield 0 .int 11 rfl (by first | decide | exact ok0 (by omega) | exact ok1 (by omega) | exact ok2 (by omega) | exact ok7 (by omega)) rfl fp_M_41 rfl rfl (Nat.le_of_ble_eq_true rfl) rfl ?_
    obtain ⟨_, c, h⟩ := bd_inv h
    cases c
    refine go_aload_n 12 rfl 0 rfl rfl ?_
    refine go_getfield 0 _ 13 rfl (by first | decide | exact ok0 (by omega) | exact ok1 (by omega) | exact ok2 (by omega) | exact ok7 (by omega)) rfl fg_M_41 rfl ?_
    refine go_if_ne 56 14 rfl (by decide) (fun c => ?_) (fun c => ?_)
    · replace h := ite_f c h
      refine go_iconst 0 35 rfl (by decide) ?_
      cases h
      exact go_ireturn 36 rfl rfl rfl ⟨rfl, rfl⟩
    · replace h := ite_t c h
      refine go_aload_n 15 rfl 0 rfl rfl ?_
      refine go_getfield 1 _ 16 rfl (by first | decide | exact ok0 (by omega) | exact ok1 (by omega) | exact ok2 (by omega) | exact ok7 (by omega)) rfl fg_M_7 rfl ?_
      refine go_bipush 8 17 rfl (by decide) ?_
      refine go_iload_n 18 rfl 1 rfl rfl ?_
      refine go_imul 19 rfl ?_
      refine go_iconst 4 20 rfl (by decide) ?_
      refine go_iload_n 21 rfl 3 rfl rfl ?_
      refine go_imul 22 rfl ?_
      refine go_iadd 23 rfl ?_
      refine go_iload_n 24 rfl 2 rfl rfl ?_
      refine go_iadd 25 rfl ?_
      obtain ⟨c, h⟩ := ck_inv h
      refine go_iaload 26 rfl (by first | decide | exact ok0 (by omega) | exact ok1 (by omega) | exact ok2 (by omega) | exact ok7 (by omega)) (inb_vp c) ?_
      refine go_iload 27 rfl 4 rfl ?_
      refine go_ishr 28 rfl ?_
      refine go_iconst 1 29 rfl (by decide) ?_
      refine go_iand 30 rfl ?_
      refine go_iconst 1 31 rfl (by decide) ?_
      refine go_icmp_ne 56 32 rfl (by decide) (fun c => ?_) (fun c => ?_)
      · replace h := ite_f c h
        refine go_iconst 0 35 rfl (by decide) ?_
        cases h
        exact go_ireturn 36 rfl rfl rfl ⟨rfl, rfl⟩
      · replace h := ite_t c h
        refine go_iconst 1 33 rfl (by decide) ?_
        refine go_goto 57 34 rfl (by decide) ?_
        cases h
        exact go_ireturn 36 rfl rfl rfl ⟨rfl, rfl⟩
  · replace h := ite_f c h
    refine go_iconst 0 8 rfl (by decide) ?_
    refine go_goto 18 9 rfl (by decide) ?_
    refine go_putfield 0 .int 11 rfl (by first | decide | exact ok0 (by omega) | exact ok1 (by omega) | exact ok2 (by omega) | exact ok7 (by omega)) rfl fp_M_41 rfl rfl (Nat.le_of_ble_eq_true rfl) rfl ?_
    obtain ⟨_, c, h⟩ := bd_inv h
    cases c
    refine go_aload_n 12 rfl 0 rfl rfl ?_
    refine go_getfield 0 _ 13 rfl (by first | decide | exact ok0 (by omega) | exact ok1 (by omega) | exact ok2 (by omega) | exact ok7 (by omega)) rfl fg_M_41 rfl ?_
    refine go_if_ne 56 14 rfl (by decide) (fun c => ?_) (fun c => ?_)
    · replace h := ite_f c h
      refine go_iconst 0 35 rfl (by decide) ?_
      cases h
      exact go_ireturn 36 rfl rfl rfl ⟨rfl, rfl⟩
    · replace h := ite_t c h
      refine go_aload_n 15 rfl 0 rfl rfl ?_
      refine go_getfield 1 _ 16 rfl (by first | decide | exact ok0 (by omega) | exact ok1 (by omega) | exact ok2 (by omega) | exact ok7 (by omega)) rfl fg_M_7 rfl ?_
      refine go_bipush 8 17 rfl (by decide) ?_
      refine go_iload_n 18 rfl 1 rfl rfl ?_
      refine go_imul 19 rfl ?_
      refine go_iconst 4 20 rfl (by decide) ?_
      refine go_iload_n 21 rfl 3 rfl rfl ?_
      refine go_imul 22 rfl ?_
      refine go_iadd 23 rfl ?_
      refine go_iload_n 24 rfl 2 rfl rfl ?_
      refine go_iadd 25 rfl ?_
      obtain ⟨c, h⟩ := ck_inv h
      refine go_iaload 26 rfl (by first | decide | exact ok0 (by omega) | exact ok1 (by omega) | exact ok2 (by omega) | exact ok7 (by omega)) (inb_vp c) ?_
      refine go_iload 27 rfl 4 rfl ?_
      refine go_ishr 28 rfl ?_
      refine go_iconst 1 29 rfl (by decide) ?_
      refine go_iand 30 rfl ?_
      refine go_iconst 1 31 rfl (by decide) ?_
      refine go_icmp_ne 56 32 rfl (by decide) (fun c => ?_) (fun c => ?_)
      · replace h := ite_f c h
        refine go_iconst 0 35 rfl (by decide) ?_
        cases h
        exact go_ireturn 36 rfl rfl rfl ⟨rfl, rfl⟩
      · replace h := ite_t c h
        refine go_iconst 1 33 rfl (by decide) ?_
        refine go_goto 57 34 rfl (by decide) ?_
        cases h
        exact go_ireturn 36 rfl rfl rfl ⟨rfl, rfl⟩
