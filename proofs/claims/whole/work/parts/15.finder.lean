def X_F_forget : MX := (⟨"OmegaDesk$LassoFinder", "forget", "()V"⟩, prog_3_method_2_code, 1, none, { frames := 0, cells := 0, slots := 0, locals := 0 },
  [(0, .aload_n 0, 1), (1, .iconst 0, 2), (2, .putfield 21, 5), (5, .return_, 6)])
set_option maxRecDepth 20000 in
theorem mk_F_forget : Mk X_F_forget := ⟨by unfold TBk; decide +kernel, by decide +kernel, wb_447, ⟨by decide, by decide⟩, rfl, rfl, wb_4⟩
theorem fp_F_21 : FP "OmegaDesk$LassoFinder" 21 6 2 .boolean := ⟨R_F, F_F, 7, tf_F, rfl, by decide, uw_F, Or.inl wb_96, tf_F_ok, nf_F, rfl, by decide +kernel⟩
def m_F_forget  (M : Mm) : Option (Mm) :=
  bd (some (uI M (6, 0) 2 (0 : Int32))) fun M1 =>
  some M1
set_option maxRecDepth 20000 in
theorem e_F_forget {l : Launch}  {M : Mm} {r : Mm}  (h : m_F_forget  M = some r) : Ev l X_F_forget [vr 6 0] M (fun v M2 => v = none ∧ M2 = r) := by
  refine Ev.of mk_F_forget [(0, vr 6 0)] (fun _ => rfl) (fun _ => (Nat.le_of_ble_eq_true rfl)) ?_
  unfold m_F_forget at h
  refine go_aload_n 0 rfl 0 rfl rfl ?_
  refine go_iconst 0 1 rfl (by decide) ?_
  refine go_putfield 2 .boolean 2 rfl (by first | decide | exact ok0 (by omega) | exact ok1 (by omega) | exact ok2 (by omega) | exact ok7 (by omega)) rfl fp_F_21 rfl rfl (Nat.le_of_ble_eq_true rfl) rfl ?_
  obtain ⟨_, c, h⟩ := bd_inv h
  cases c
  cases h
  exact go_return 3 rfl rfl ⟨rfl, rfl⟩
def X_F_searchSplit : MX := (⟨"OmegaDesk$LassoFinder", "searchSplit", "(II)V"⟩, prog_3_method_4_code, 7, none, { frames := 3, cells := 0, slots := 0, locals := 63 },
  [(0, .iconst 1, 1), (1, .iload_n 2, 2), (2, .ishl, 3), (3, .iconst 1, 4), (4, .isub, 5), (5, .istore_n 3, 6), (6, .iconst 0, 7), (7, .istore 4, 9), (9, .iload 4, 11), (11, .iconst 1, 12), (12, .iload_n 1, 13), (13, .iload_n 2, 14), (14, .iadd, 15), (15, .ishl, 16), (16, .if_icmp .ge 89, 19), (19, .iconst 1, 20), (20, .iload_n 1, 21), (21, .ishl, 22), (22, .iload 4, 24), (24, .iload_n 2, 25), (25, .ishr, 26), (26, .ior, 27), (27, .istore 5, 29), (29, .iconst 1, 30), (30, .iload_n 2, 31), (31, .ishl, 32), (32, .iload 4, 34), (34, .iload_n 3, 35), (35, .iand, 36), (36, .ior, 37), (37, .istore 6, 39), (39, .aload_n 0, 40), (40, .getfield 12, 43), (43, .iload 5, 45), (45, .iload 6, 47), (47, .invokevirtual 50, 50), (50, .ifCond .eq 49, 53), (53, .aload_n 0, 54), (54, .getfield 18, 57), (57, .iload 5, 59), (59, .iload 6, 61), (61, .invokevirtual 50, 64), (64, .ifCond .ne 35, 67), (67, .aload_n 0, 68), (68, .iconst 1, 69), (69, .putfield 21, 72), (72, .aload_n 0, 73), (73, .iload_n 1, 74), (74, .putfield 25, 77), (77, .aload_n 0, 78), (78, .iload 4, 80), (80, .iload_n 2, 81), (81, .ishr, 82), (82, .putfield 29, 85), (85, .aload_n 0, 86), (86, .iload_n 2, 87), (87, .putfield 32, 90), (90, .aload_n 0, 91), (91, .iload 4, 93), (93, .iload_n 3, 94), (94, .iand, 95), (95, .putfield 35, 98), (98, .return_, 99), (99, .iinc 4 1, 102), (102, .goto (-93), 105), (105, .return_, 106)])
set_option maxRecDepth 20000 in
theorem mk_F_searchSplit : Mk X_F_searchSplit := ⟨by unfold TBk; decide +kernel, by decide +kernel, wb_466, ⟨by decide, by decide⟩, rfl, rfl, wb_4⟩
theorem fg_F_12 : FG "OmegaDesk$LassoFinder" 12 6 0 := ⟨R_F, F_F, 7, rfl, by decide, uw_F, Or.inl wb_94⟩
theorem cv_F_50 : CV "OmegaDesk$LassoFinder" 50 X_T_takesLasso 2 7 := ⟨Or.inl wb_467, ⟨wb_468, wb_469⟩, by decide +kernel, F_T, 2, rfl⟩
theorem fg_F_18 : FG "OmegaDesk$LassoFinder" 18 6 1 := ⟨R_F, F_F, 7, rfl, by decide, uw_F, Or.inl wb_95⟩
theorem fp_F_25 : FP "OmegaDesk$LassoFinder" 25 6 3 .int := ⟨R_F, F_F, 7, tf_F, rfl, by decide, uw_F, Or.inl wb_98, tf_F_ok, nf_F, rfl, by decide +kernel⟩
theorem fp_F_29 : FP "OmegaDesk$LassoFinder" 29 6 4 .int := ⟨R_F, F_F, 7, tf_F, rfl, by decide, uw_F, Or.inl wb_100, tf_F_ok, nf_F, rfl, by decide +kernel⟩
theorem fp_F_32 : FP "OmegaDesk$LassoFinder" 32 6 5 .int := ⟨R_F, F_F, 7, tf_F, rfl, by decide, uw_F, Or.inl wb_102, tf_F_ok, nf_F, rfl, by decide +kernel⟩
theorem fp_F_35 : FP "OmegaDesk$LassoFinder" 35 6 6 .int := ⟨R_F, F_F, 7, tf_F, rfl, by decide, uw_F, Or.inl wb_104, tf_F_ok, nf_F, rfl, by decide +kernel⟩
def b_F_searchSplit_9 (c1 : Int32) (c2 : Int32) (c3 : Int32) (s : Int32 × Mm) : Option ((Int32 × Mm) ⊕ ((Int32 × Mm) ⊕ (Mm))) :=
  if ((1 : Int32) <<< ((c1 + c2) &&& 31)) ≤ s.1 then
    some (Sum.inr (Sum.inl (s.1, s.2)))
  else
    bd (some (((1 : Int32) <<< (c1 &&& 31)) ||| (s.1 >>> (c2 &&& 31)))) fun x2 =>
    bd (some (((1 : Int32) <<< (c2 &&& 31)) ||| (s.1 &&& c3))) fun x3 =>
    bd (m_T_takesLasso 0 x2 x3 s.2) fun r4 =>
    if (bI r4) = 0 then
      some (Sum.inl ((s.1 + 1), s.2))
    else
      bd (m_T_takesLasso 1 x2 x3 s.2) fun r5 =>
      if (bI r5) = 0 then
        bd (some (uI s.2 (6, 0) 2 (1 : Int32))) fun M6 =>
        bd (some (uI M6 (6, 0) 3 c1)) fun M7 =>
        bd (some (uI M7 (6, 0) 4 (s.1 >>> (c2 &&& 31)))) fun M8 =>
        bd (some (uI M8 (6, 0) 5 c2)) fun M9 =>
        bd (some (uI M9 (6, 0) 6 (s.1 &&& c3))) fun M10 =>
        some (Sum.inr (Sum.inr M10))
      else
        some (Sum.inl ((s.1 + 1), s.2))
def m_F_searchSplit (a1 : Int32) (a2 : Int32) (M : Mm) : Option (Mm) :=
  bd (some (((1 : Int32) <<< (a2 &&& 31)) - (1 : Int32))) fun x1 =>
  bd (lp (b_F_searchSplit_9 a1 a2 x1) ((0 : Int32), M)) fun r11 =>
  smr r11 (fun v13 => some v13) fun s12 =>
  some s12.2
set_option maxRecDepth 20000 in
theorem w_F_searchSplit_9 {l : Launch} {post : Option PV → Mm → Prop} (c1 : Int32) (c2 : Int32) (c3 : Int32)  {r : (Int32 × Mm) ⊕ (Mm)} (kk : ∀ s2, r = Sum.inl s2 → Go l X_F_searchSplit post 105 [(0, vr 6 0), (1, vi c1), (2, vi c2), (3, vi c3), (4, vi s2.1)] [] s2.2) (kr : ∀ v, r = Sum.inr v → post none v) : ∀ (n : Nat) (s : Int32 × Mm), lpN (b_F_searchSplit_9 c1 c2 c3) n s = some r → Go l X_F_searchSplit post 9 [(0, vr 6 0), (1, vi c1), (2, vi c2), (3, vi c3), (4, vi s.1)] [] s.2 := by
  intro n
  induction n with
  | zero => intro s hc; exact (lpN_0 hc).elim
  | succ n ih =>
    intro s hc
    obtain ⟨q, h, hc⟩ := lpN_inv hc
    unfold b_F_searchSplit_9 at h
    refine go_iload 8 rfl 4 rfl ?_
    refine go_iconst 1 9 rfl (by decide) ?_
    refine go_iload_n 10 rfl 1 rfl rfl ?_
    refine go_iload_n 11 rfl 2 rfl rfl ?_
    refine go_iadd 12 rfl ?_
    refine go_ishl 13 rfl ?_
    refine go_icmp_ge 105 14 rfl (by decide) (fun c => ?_) (fun c => ?_)
    · replace h := ite_t c h
      cases h
      obtain rfl := lpq_r hc
      exact kk _ rfl
    · replace h := ite_f c h
      refine go_iconst 1 15 rfl (by decide) ?_
      refine go_iload_n 16 rfl 1 rfl rfl ?_
      refine go_ishl 17 rfl ?_
      refine go_iload 18 rfl 4 rfl ?_
      refine go_iload_n 19 rfl 2 rfl rfl ?_
      refine go_ishr 20 rfl ?_
      refine go_ior 21 rfl ?_
      obtain ⟨_, c, h⟩ := bd_inv h
      cases c
      refine go_istore 22 rfl (Nat.le_of_ble_eq_true rfl) [(0, _), (1, _), (2, _), (3, _), (4, _), (5, _)] rfl ?_
      refine go_iconst 1 23 rfl (by decide) ?_
      refine go_iload_n 24 rfl 2 rfl rfl ?_
      refine go_ishl 25 rfl ?_
      refine go_iload 26 rfl 4 rfl ?_
      refine go_iload_n 27 rfl 3 rfl rfl ?_
      refine go_iand 28 rfl ?_
      refine go_ior 29 rfl ?_
      obtain ⟨_, c, h⟩ := bd_inv h
      cases c
      refine go_istore 30 rfl (Nat.le_of_ble_eq_true rfl) [(0, _), (1, _), (2, _), (3, _), (4, _), (5, _), (6, _)] rfl ?_
      refine go_aload_n 31 rfl 0 rfl rfl ?_
      refine go_getfield 0 _ 32 rfl (by first | decide | exact ok0 (by omega) | exact ok1 (by omega) | exact ok2 (by omega) | exact ok7 (by omega)) rfl fg_F_12 rfl ?_
      refine go_iload 33 rfl 5 rfl ?_
      refine go_iload 34 rfl 6 rfl ?_
      obtain ⟨r4, c, h⟩ := bd_inv h
      refine go_callV1 _ 35 rfl (e_T_takesLasso (by omega) c) mk_T_takesLasso (by first | decide | exact ok0 (by omega) | exact ok1 (by omega) | exact ok2 (by omega) | exact ok7 (by omega)) rfl cv_F_50 rfl ⟨(Nat.le_of_ble_eq_true rfl), (Nat.le_of_ble_eq_true rfl)⟩ (Nat.le_of_ble_eq_true rfl) rfl ?_
      refine go_if_eq 99 36 rfl (by decide) (fun c => ?_) (fun c => ?_)
      · replace h := ite_t c h
        refine go_iinc 1 63 rfl 4 rfl (by decide) (Nat.le_of_ble_eq_true rfl) [(0, _), (1, _), (2, _), (3, _), (4, _), (5, _), (6, _)] rfl ?_
        refine go_goto 9 64 rfl (by decide) ?_
        cases h
        refine go_sub [0, 1, 2, 3, 4] rfl ?_
        have g9 := ih _ hc
        exact g9
      · replace h := ite_f c h
        refine go_aload_n 37 rfl 0 rfl rfl ?_
        refine go_getfield 1 _ 38 rfl (by first | decide | exact ok0 (by omega) | exact ok1 (by omega) | exact ok2 (by omega) | exact ok7 (by omega)) rfl fg_F_18 rfl ?_
        refine go_iload 39 rfl 5 rfl ?_
        refine go_iload 40 rfl 6 rfl ?_
        obtain ⟨r5, c, h⟩ := bd_inv h
        refine go_callV1 _ 41 rfl (e_T_takesLasso (by omega) c) mk_T_takesLasso (by first | decide | exact ok0 (by omega) | exact ok1 (by omega) | exact ok2 (by omega) | exact ok7 (by omega)) rfl cv_F_50 rfl ⟨(Nat.le_of_ble_eq_true rfl), (Nat.le_of_ble_eq_true rfl)⟩ (Nat.le_of_ble_eq_true rfl) rfl ?_
        refine go_if_ne 99 42 rfl (by decide) (fun c => ?_) (fun c => ?_)
        · replace h := ite_f c h
          refine go_iinc 1 63 rfl 4 rfl (by decide) (Nat.le_of_ble_eq_true rfl) [(0, _), (1, _), (2, _), (3, _), (4, _), (5, _), (6, _)] rfl ?_
          refine go_goto 9 64 rfl (by decide) ?_
          cases h
          refine go_sub [0, 1, 2, 3, 4] rfl ?_
          have g9 := ih _ hc
          exact g9
        · replace h := ite_t c h
          refine go_aload_n 43 rfl 0 rfl rfl ?_
          refine go_iconst 1 44 rfl (by decide) ?_
          refine go_putfield 2 .boolean 45 rfl (by first | decide | exact ok0 (by omega) | exact ok1 (by omega) | exact ok2 (by omega) | exact ok7 (by omega)) rfl fp_F_21 rfl rfl (Nat.le_of_ble_eq_true rfl) rfl ?_
          obtain ⟨_, c, h⟩ := bd_inv h
          cases c
          refine go_aload_n 46 rfl 0 rfl rfl ?_
          refine go_iload_n 47 rfl 1 rfl rfl ?_
          refine go_putfield 3 .int 48 rfl (by first | decide | exact ok0 (by omega) | exact ok1 (by omega) | exact ok2 (by omega) | exact ok7 (by omega)) rfl fp_F_25 rfl rfl (Nat.le_of_ble_eq_true rfl) rfl ?_
          obtain ⟨_, c, h⟩ := bd_inv h
          cases c
          refine go_aload_n 49 rfl 0 rfl rfl ?_
          refine go_iload 50 rfl 4 rfl ?_
          refine go_iload_n 51 rfl 2 rfl rfl ?_
          refine go_ishr 52 rfl ?_
          refine go_putfield 4 .int 53 rfl (by first | decide | exact ok0 (by omega) | exact ok1 (by omega) | exact ok2 (by omega) | exact ok7 (by omega)) rfl fp_F_29 rfl rfl (Nat.le_of_ble_eq_true rfl) rfl ?_
          obtain ⟨_, c, h⟩ := bd_inv h
          cases c
          refine go_aload_n 54 rfl 0 rfl rfl ?_
          refine go_iload_n 55 rfl 2 rfl rfl ?_
          refine go_putfield 5 .int 56 rfl (by first | decide | exact ok0 (by omega) | exact ok1 (by omega) | exact ok2 (by omega) | exact ok7 (by omega)) rfl fp_F_32 rfl rfl (Nat.le_of_ble_eq_true rfl) rfl ?_
          obtain ⟨_, c, h⟩ := bd_inv h
          cases c
          refine go_aload_n 57 rfl 0 rfl rfl ?_
          refine go_iload 58 rfl 4 rfl ?_
          refine go_iload_n 59 rfl 3 rfl rfl ?_
          refine go_iand 60 rfl ?_
          refine go_putfield 6 .int 61 rfl (by first | decide | exact ok0 (by omega) | exact ok1 (by omega) | exact ok2 (by omega) | exact ok7 (by omega)) rfl fp_F_35 rfl rfl (Nat.le_of_ble_eq_true rfl) rfl ?_
          obtain ⟨_, c, h⟩ := bd_inv h
          cases c
          cases h
          obtain rfl := lpq_r hc
          exact go_return 62 rfl rfl (kr _ rfl)
set_option maxRecDepth 20000 in
theorem e_F_searchSplit {l : Launch} {a1 : Int32} {a2 : Int32} {M : Mm} {r : Mm}  (h : m_F_searchSplit a1 a2 M = some r) : Ev l X_F_searchSplit [vr 6 0, vi a1, vi a2] M (fun v M2 => v = none ∧ M2 = r) := by
  refine Ev.of mk_F_searchSplit [(0, vr 6 0), (1, vi a1), (2, vi a2)] (fun _ => rfl) (fun _ => (Nat.le_of_ble_eq_true rfl)) ?_
  unfold m_F_searchSplit at h
  refine go_iconst 1 0 rfl (by decide) ?_
  refine go_iload_n 1 rfl 2 rfl rfl ?_
  refine go_ishl 2 rfl ?_
  refine go_iconst 1 3 rfl (by decide) ?_
  refine go_isub 4 rfl ?_
  obtain ⟨_, c, h⟩ := bd_inv h
  cases c
  refine go_istore_n 5 rfl rfl (Nat.le_of_ble_eq_true rfl) [(0, _), (1, _), (2, _), (3, _)] rfl ?_
  refine go_iconst 0 6 rfl (by decide) ?_
  refine go_istore 7 rfl (Nat.le_of_ble_eq_true rfl) [(0, _), (1, _), (2, _), (3, _), (4, _)] rfl ?_
  obtain ⟨r11, c, h⟩ := bd_inv h
  refine w_F_searchSplit_9 _ _ _ (fun s2 e => ?_) (fun v e => ?_) _ _ c
  · subst e
    replace h := smr_l h
    cases h
    exact go_return 65 rfl rfl ⟨rfl, rfl⟩
  · subst e
    replace h := smr_r h
    cases h
    exact ⟨rfl, rfl⟩
def X_F_search : MX := (⟨"OmegaDesk$LassoFinder", "search", "(LOmegaDesk$Automaton;LOmegaDesk$Automaton;)V"⟩, prog_3_method_3_code, 5, none, { frames := 4, cells := 0, slots := 0, locals := 92 },
  [(0, .aload_n 0, 1), (1, .iconst 0, 2), (2, .putfield 21, 5), (5, .aload_n 0, 6), (6, .getfield 12, 9), (9, .aload_n 1, 10), (10, .invokevirtual 38, 13), (13, .aload_n 0, 14), (14, .getfield 18, 17), (17, .aload_n 2, 18), (18, .invokevirtual 38, 21), (21, .iconst 1, 22), (22, .istore_n 3, 23), (23, .iload_n 3, 24), (24, .bipush 8, 26), (26, .if_icmp .gt 66, 29), (29, .aload_n 0, 30), (30, .getfield 21, 33), (33, .ifCond .ne 59, 36), (36, .aload_n 0, 37), (37, .getfield 12, 40), (40, .aload_n 1, 41), (41, .iload_n 3, 42), (42, .invokevirtual 42, 45), (45, .aload_n 0, 46), (46, .getfield 18, 49), (49, .aload_n 2, 50), (50, .iload_n 3, 51), (51, .invokevirtual 42, 54), (54, .iconst 0, 55), (55, .istore 4, 57), (57, .iload 4, 59), (59, .iload_n 3, 60), (60, .if_icmp .ge 26, 63), (63, .aload_n 0, 64), (64, .getfield 21, 67), (67, .ifCond .ne 19, 70), (70, .aload_n 0, 71), (71, .iload 4, 73), (73, .iload_n 3, 74), (74, .iload 4, 76), (76, .isub, 77), (77, .invokevirtual 46, 80), (80, .iinc 4 1, 83), (83, .goto (-26), 86), (86, .iinc 3 1, 89), (89, .goto (-66), 92), (92, .return_, 93)])
set_option maxRecDepth 20000 in
theorem mk_F_search : Mk X_F_search := ⟨by unfold TBk; decide +kernel, by decide +kernel, wb_451, ⟨by decide, by decide⟩, rfl, rfl, wb_4⟩
theorem cv_F_38 : CV "OmegaDesk$LassoFinder" 38 X_T_begin 1 7 := ⟨Or.inl wb_452, ⟨wb_453, wb_454⟩, by decide +kernel, F_T, 2, rfl⟩
theorem fg_F_21 : FG "OmegaDesk$LassoFinder" 21 6 2 := ⟨R_F, F_F, 7, rfl, by decide, uw_F, Or.inl wb_96⟩
theorem cv_F_42 : CV "OmegaDesk$LassoFinder" 42 X_T_addWords 2 7 := ⟨Or.inl wb_457, ⟨wb_458, wb_459⟩, by decide +kernel, F_T, 2, rfl⟩
theorem cv_F_46 : CV "OmegaDesk$LassoFinder" 46 X_F_searchSplit 2 6 := ⟨Or.inl wb_463, ⟨wb_465, ws_F_searchSplit⟩, by decide +kernel, F_F, 7, rfl⟩
def b_F_search_57 (c3 : Int32) (s : Int32 × Mm) : Option ((Int32 × Mm) ⊕ (Int32 × Mm)) :=
  if c3 ≤ s.1 then
    some (Sum.inr (s.1, s.2))
  else
    if (s.2.1 (6, 0) 2) = 0 then
      bd (m_F_searchSplit s.1 (c3 - s.1) s.2) fun r6 =>
      some (Sum.inl ((s.1 + 1), r6))
    else
      some (Sum.inr (s.1, s.2))
def b_F_search_23 (c1 : Nat) (c2 : Nat) (s : Int32 × Mm) : Option ((Int32 × Mm) ⊕ (Int32 × Mm)) :=
  if (8 : Int32) < s.1 then
    some (Sum.inr (s.1, s.2))
  else
    if (s.2.1 (6, 0) 2) = 0 then
      bd (m_T_addWords 0 c1 s.1 s.2) fun r4 =>
      bd (m_T_addWords 1 c2 s.1 r4) fun r5 =>
      bd (lp (b_F_search_57 s.1) ((0 : Int32), r5)) fun r7 =>
      some (Sum.inl ((s.1 + 1), r7.2))
    else
      some (Sum.inr (s.1, s.2))
def m_F_search (a1 : Nat) (a2 : Nat) (M : Mm) : Option (Mm) :=
  bd (some (uI M (6, 0) 2 (0 : Int32))) fun M1 =>
  bd (m_T_begin 0 a1 M1) fun r2 =>
  bd (m_T_begin 1 a2 r2) fun r3 =>
  bd (lp (b_F_search_23 a1 a2) ((1 : Int32), r3)) fun r8 =>
  some r8.2
set_option maxRecDepth 20000 in
theorem w_F_search_57 {l : Launch} {post : Option PV → Mm → Prop} (c1 : Nat) (c2 : Nat) (c3 : Int32) (h1 : c1 < 7) (h2 : c2 < 7) {r : Int32 × Mm} (kk : Go l X_F_search post 86 [(0, vr 6 0), (1, vr 0 c1), (2, vr 0 c2), (3, vi c3), (4, vi r.1)] [] r.2) : ∀ (n : Nat) (s : Int32 × Mm), lpN (b_F_search_57 c3) n s = some r → Go l X_F_search post 57 [(0, vr 6 0), (1, vr 0 c1), (2, vr 0 c2), (3, vi c3), (4, vi s.1)] [] s.2 := by
  intro n
  induction n with
  | zero => intro s hc; exact (lpN_0 hc).elim
  | succ n ih =>
    intro s hc
    obtain ⟨q, h, hc⟩ := lpN_inv hc
    unfold b_F_search_57 at h
    refine go_iload 31 rfl 4 rfl ?_
    refine go_iload_n 32 rfl 3 rfl rfl ?_
    refine go_icmp_ge 86 33 rfl (by decide) (fun c => ?_) (fun c => ?_)
    · replace h := ite_t c h
      cases h
      obtain rfl := lpq_r hc
      exact kk
    · replace h := ite_f c h
      refine go_aload_n 34 rfl 0 rfl rfl ?_
      refine go_getfield 2 _ 35 rfl (by first | decide | exact ok0 (by omega) | exact ok1 (by omega) | exact ok2 (by omega) | exact ok7 (by omega)) rfl fg_F_21 rfl ?_
      refine go_if_ne 86 36 rfl (by decide) (fun c => ?_) (fun c => ?_)
      · replace h := ite_f c h
        cases h
        obtain rfl := lpq_r hc
        exact kk
      · replace h := ite_t c h
        refine go_aload_n 37 rfl 0 rfl rfl ?_
        refine go_iload 38 rfl 4 rfl ?_
        refine go_iload_n 39 rfl 3 rfl rfl ?_
        refine go_iload 40 rfl 4 rfl ?_
        refine go_isub 41 rfl ?_
        obtain ⟨r6, c, h⟩ := bd_inv h
        refine go_callV1 _ 42 rfl (e_F_searchSplit c) mk_F_searchSplit (by first | decide | exact ok0 (by omega) | exact ok1 (by omega) | exact ok2 (by omega) | exact ok7 (by omega)) rfl cv_F_46 rfl ⟨(Nat.le_of_ble_eq_true rfl), (Nat.le_of_ble_eq_true rfl)⟩ (Nat.le_of_ble_eq_true rfl) rfl ?_
        refine go_iinc 1 43 rfl 4 rfl (by decide) (Nat.le_of_ble_eq_true rfl) [(0, _), (1, _), (2, _), (3, _), (4, _)] rfl ?_
        refine go_goto 57 44 rfl (by decide) ?_
        cases h
        have g9 := ih _ hc
        exact g9
set_option maxRecDepth 20000 in
theorem w_F_search_23 {l : Launch} {post : Option PV → Mm → Prop} (c1 : Nat) (c2 : Nat) (h1 : c1 < 7) (h2 : c2 < 7) {r : Int32 × Mm} (kk : Go l X_F_search post 92 [(0, vr 6 0), (1, vr 0 c1), (2, vr 0 c2), (3, vi r.1)] [] r.2) : ∀ (n : Nat) (s : Int32 × Mm), lpN (b_F_search_23 c1 c2) n s = some r → Go l X_F_search post 23 [(0, vr 6 0), (1, vr 0 c1), (2, vr 0 c2), (3, vi s.1)] [] s.2 := by
  intro n
  induction n with
  | zero => intro s hc; exact (lpN_0 hc).elim
  | succ n ih =>
    intro s hc
    obtain ⟨q, h, hc⟩ := lpN_inv hc
    unfold b_F_search_23 at h
    refine go_iload_n 13 rfl 3 rfl rfl ?_
    refine go_bipush 8 14 rfl (by decide) ?_
    refine go_icmp_gt 92 15 rfl (by decide) (fun c => ?_) (fun c => ?_)
    · replace h := ite_t c h
      cases h
      obtain rfl := lpq_r hc
      exact kk
    · replace h := ite_f c h
      refine go_aload_n 16 rfl 0 rfl rfl ?_
      refine go_getfield 2 _ 17 rfl (by first | decide | exact ok0 (by omega) | exact ok1 (by omega) | exact ok2 (by omega) | exact ok7 (by omega)) rfl fg_F_21 rfl ?_
      refine go_if_ne 92 18 rfl (by decide) (fun c => ?_) (fun c => ?_)
      · replace h := ite_f c h
        cases h
        obtain rfl := lpq_r hc
        exact kk
      · replace h := ite_t c h
        refine go_aload_n 19 rfl 0 rfl rfl ?_
        refine go_getfield 0 _ 20 rfl (by first | decide | exact ok0 (by omega) | exact ok1 (by omega) | exact ok2 (by omega) | exact ok7 (by omega)) rfl fg_F_12 rfl ?_
        refine go_aload_n 21 rfl 1 rfl rfl ?_
        refine go_iload_n 22 rfl 3 rfl rfl ?_
        obtain ⟨r4, c, h⟩ := bd_inv h
        refine go_callV1 _ 23 rfl (e_T_addWords (by omega) (by omega) c) mk_T_addWords (by first | decide | exact ok0 (by omega) | exact ok1 (by omega) | exact ok2 (by omega) | exact ok7 (by omega)) rfl cv_F_42 rfl ⟨(Nat.le_of_ble_eq_true rfl), (Nat.le_of_ble_eq_true rfl)⟩ (Nat.le_of_ble_eq_true rfl) rfl ?_
        refine go_aload_n 24 rfl 0 rfl rfl ?_
        refine go_getfield 1 _ 25 rfl (by first | decide | exact ok0 (by omega) | exact ok1 (by omega) | exact ok2 (by omega) | exact ok7 (by omega)) rfl fg_F_18 rfl ?_
        refine go_aload_n 26 rfl 2 rfl rfl ?_
        refine go_iload_n 27 rfl 3 rfl rfl ?_
        obtain ⟨r5, c, h⟩ := bd_inv h
        refine go_callV1 _ 28 rfl (e_T_addWords (by omega) (by omega) c) mk_T_addWords (by first | decide | exact ok0 (by omega) | exact ok1 (by omega) | exact ok2 (by omega) | exact ok7 (by omega)) rfl cv_F_42 rfl ⟨(Nat.le_of_ble_eq_true rfl), (Nat.le_of_ble_eq_true rfl)⟩ (Nat.le_of_ble_eq_true rfl) rfl ?_
        refine go_iconst 0 29 rfl (by decide) ?_
        refine go_istore 30 rfl (Nat.le_of_ble_eq_true rfl) [(0, _), (1, _), (2, _), (3, _), (4, _)] rfl ?_
        obtain ⟨r7, c, h⟩ := bd_inv h
        refine w_F_search_57 _ _ _ (by omega) (by omega) ?_ _ _ c
        refine go_iinc 1 45 rfl 3 rfl (by decide) (Nat.le_of_ble_eq_true rfl) [(0, _), (1, _), (2, _), (3, _), (4, _)] rfl ?_
        refine go_goto 23 46 rfl (by decide) ?_
        cases h
        refine go_sub [0, 1, 2, 3] rfl ?_
        have g9 := ih _ hc
        exact g9
set_option maxRecDepth 20000 in
theorem e_F_search {l : Launch} {a1 : Nat} {a2 : Nat} {M : Mm} {r : Mm} (h1 : a1 < 7) (h2 : a2 < 7) (h : m_F_search a1 a2 M = some r) : Ev l X_F_search [vr 6 0, vr 0 a1, vr 0 a2] M (fun v M2 => v = none ∧ M2 = r) := by
  refine Ev.of mk_F_search [(0, vr 6 0), (1, vr 0 a1), (2, vr 0 a2)] (fun _ => rfl) (fun _ => (Nat.le_of_ble_eq_true rfl)) ?_
  unfold m_F_search at h
  refine go_aload_n 0 rfl 0 rfl rfl ?_
  refine go_iconst 0 1 rfl (by decide) ?_
  refine go_putfield 2 .boolean 2 rfl (by first | decide | exact ok0 (by omega) | exact ok1 (by omega) | exact ok2 (by omega) | exact ok7 (by omega)) rfl fp_F_21 rfl rfl (Nat.le_of_ble_eq_true rfl) rfl ?_
  obtain ⟨_, c, h⟩ := bd_inv h
  cases c
  refine go_aload_n 3 rfl 0 rfl rfl ?_
  refine go_getfield 0 _ 4 rfl (by first | decide | exact ok0 (by omega) | exact ok1 (by omega) | exact ok2 (by omega) | exact ok7 (by omega)) rfl fg_F_12 rfl ?_
  refine go_aload_n 5 rfl 1 rfl rfl ?_
  obtain ⟨r2, c, h⟩ := bd_inv h
  refine go_callV1 _ 6 rfl (e_T_begin (by omega) (by omega) c) mk_T_begin (by first | decide | exact ok0 (by omega) | exact ok1 (by omega) | exact ok2 (by omega) | exact ok7 (by omega)) rfl cv_F_38 rfl ⟨(Nat.le_of_ble_eq_true rfl), (Nat.le_of_ble_eq_true rfl)⟩ (Nat.le_of_ble_eq_true rfl) rfl ?_
  refine go_aload_n 7 rfl 0 rfl rfl ?_
  refine go_getfield 1 _ 8 rfl (by first | decide | exact ok0 (by omega) | exact ok1 (by omega) | exact ok2 (by omega) | exact ok7 (by omega)) rfl fg_F_18 rfl ?_
  refine go_aload_n 9 rfl 2 rfl rfl ?_
  obtain ⟨r3, c, h⟩ := bd_inv h
  refine go_callV1 _ 10 rfl (e_T_begin (by omega) (by omega) c) mk_T_begin (by first | decide | exact ok0 (by omega) | exact ok1 (by omega) | exact ok2 (by omega) | exact ok7 (by omega)) rfl cv_F_38 rfl ⟨(Nat.le_of_ble_eq_true rfl), (Nat.le_of_ble_eq_true rfl)⟩ (Nat.le_of_ble_eq_true rfl) rfl ?_
  refine go_iconst 1 11 rfl (by decide) ?_
  refine go_istore_n 12 rfl rfl (Nat.le_of_ble_eq_true rfl) [(0, _), (1, _), (2, _), (3, _)] rfl ?_
  obtain ⟨r8, c, h⟩ := bd_inv h
  refine w_F_search_23 _ _ (by omega) (by omega) ?_ _ _ c
  cases h
  exact go_return 47 rfl rfl ⟨rfl, rfl⟩
