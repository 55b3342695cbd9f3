def X_T_begin : MX := (⟨"OmegaDesk$WordTable", "begin", "(LOmegaDesk$Automaton;)V"⟩, prog_6_method_2_code, 2, none, { frames := 1, cells := 0, slots := 0, locals := 23 },
  [(0, .aload_n 0, 1), (1, .getfield 11, 4), (4, .iconst 1, 5), (5, .aload_n 1, 6), (6, .iconst 1, 7), (7, .aload_n 1, 8), (8, .getfield 18, 11), (11, .ishl, 12), (12, .iconst 1, 13), (13, .isub, 14), (14, .invokevirtual 24, 17), (17, .iastore, 18), (18, .return_, 19)])
set_option maxRecDepth 20000 in
theorem mk_T_begin : Mk X_T_begin := ⟨by unfold TBk; decide +kernel, by decide +kernel, wb_455, ⟨by decide, by decide⟩, rfl, rfl, wb_5⟩
theorem fg_T_11 : FG "OmegaDesk$WordTable" 11 7 0 := ⟨R_T, F_T, 2, rfl, by decide, uw_T, Or.inl wb_87⟩
theorem fg_T_18 : FG "OmegaDesk$WordTable" 18 0 0 := ⟨R_A, F_A, 3, rfl, by decide, uw_A, Or.inr ⟨_, nw_34⟩⟩
theorem cv_T_24 : CV "OmegaDesk$WordTable" 24 X_A_emptyPassage 1 0 := ⟨Or.inl wb_456, ⟨wb_320, wb_321⟩, by decide +kernel, F_A, 3, rfl⟩
def m_T_begin (a0 : Nat) (a1 : Nat) (M : Mm) : Option (Mm) :=
  bd (m_A_emptyPassage a1 (((1 : Int32) <<< ((M.1 (0, a1) 0) &&& 31)) - (1 : Int32)) M) fun r1 =>
  ck (inb (1 : Int32) (lenI (12 + 2 * a0))) <|
  bd (some (uI M (1, (12 + 2 * a0)) (1 : Int32).toNatClampNeg r1)) fun M2 =>
  some M2
set_option maxRecDepth 20000 in
theorem e_T_begin {l : Launch} {a0 : Nat} {a1 : Nat} {M : Mm} {r : Mm} (h0 : a0 < 2) (h1 : a1 < 7) (h : m_T_begin a0 a1 M = some r) : Ev l X_T_begin [vr 7 a0, vr 0 a1] M (fun v M2 => v = none ∧ M2 = r) := by
  refine Ev.of mk_T_begin [(0, vr 7 a0), (1, vr 0 a1)] (fun _ => rfl) (fun _ => (Nat.le_of_ble_eq_true rfl)) ?_
  unfold m_T_begin at h
  refine go_aload_n 0 rfl 0 rfl rfl ?_
  refine go_getfield 0 _ 1 rfl (by first | decide | exact ok0 (by omega) | exact ok1 (by omega) | exact ok2 (by omega) | exact ok7 (by omega)) rfl fg_T_11 rfl ?_
  refine go_iconst 1 2 rfl (by decide) ?_
  refine go_aload_n 3 rfl 1 rfl rfl ?_
  refine go_iconst 1 4 rfl (by decide) ?_
  refine go_aload_n 5 rfl 1 rfl rfl ?_
  refine go_getfield 0 _ 6 rfl (by first | decide | exact ok0 (by omega) | exact ok1 (by omega) | exact ok2 (by omega) | exact ok7 (by omega)) rfl fg_T_18 rfl ?_
  refine go_ishl 7 rfl ?_
  refine go_iconst 1 8 rfl (by decide) ?_
  refine go_isub 9 rfl ?_
  obtain ⟨r1, c, h⟩ := bd_inv h
  refine go_callV1 _ 10 rfl (e_A_emptyPassage (by omega) c) mk_A_emptyPassage (by first | decide | exact ok0 (by omega) | exact ok1 (by omega) | exact ok2 (by omega) | exact ok7 (by omega)) rfl cv_T_24 rfl ⟨(Nat.le_of_ble_eq_true rfl), (Nat.le_of_ble_eq_true rfl)⟩ (Nat.le_of_ble_eq_true rfl) rfl ?_
  obtain ⟨c, h⟩ := ck_inv h
  refine go_iastore 11 rfl (by first | decide | exact ok0 (by omega) | exact ok1 (by omega) | exact ok2 (by omega) | exact ok7 (by omega)) (inb_vp c) ?_
  obtain ⟨_, c, h⟩ := bd_inv h
  cases c
  cases h
  exact go_return 12 rfl rfl ⟨rfl, rfl⟩
def X_T_addWords : MX := (⟨"OmegaDesk$WordTable", "addWords", "(LOmegaDesk$Automaton;I)V"⟩, prog_6_method_3_code, 5, none, { frames := 3, cells := 0, slots := 0, locals := 68 },
  [(0, .iconst 1, 1), (1, .iload_n 2, 2), (2, .ishl, 3), (3, .istore_n 3, 4), (4, .iload_n 3, 5), (5, .iconst 2, 6), (6, .iload_n 2, 7), (7, .ishl, 8), (8, .if_icmp .ge 52, 11), (11, .iload_n 3, 12), (12, .sipush 512, 15), (15, .if_icmp .ge 45, 18), (18, .aload_n 1, 19), (19, .aload_n 0, 20), (20, .getfield 11, 23), (23, .iload_n 3, 24), (24, .iconst 1, 25), (25, .ishr, 26), (26, .iaload, 27), (27, .iload_n 3, 28), (28, .iconst 1, 29), (29, .iand, 30), (30, .invokevirtual 28, 33), (33, .istore 4, 35), (35, .aload_n 0, 36), (36, .getfield 11, 39), (39, .iload_n 3, 40), (40, .iload 4, 42), (42, .iastore, 43), (43, .aload_n 0, 44), (44, .getfield 15, 47), (47, .iload_n 3, 48), (48, .iload 4, 50), (50, .invokestatic 32, 53), (53, .iastore, 54), (54, .iinc 3 1, 57), (57, .goto (-53), 60), (60, .return_, 61)])
set_option maxRecDepth 20000 in
theorem mk_T_addWords : Mk X_T_addWords := ⟨by unfold TBk; decide +kernel, by decide +kernel, wb_460, ⟨by decide, by decide⟩, rfl, rfl, wb_5⟩
theorem cv_T_28 : CV "OmegaDesk$WordTable" 28 X_A_longerPassage 2 0 := ⟨Or.inl wb_461, ⟨wb_324, wb_325⟩, by decide +kernel, F_A, 3, rfl⟩
theorem fg_T_15 : FG "OmegaDesk$WordTable" 15 7 1 := ⟨R_T, F_T, 2, rfl, by decide, uw_T, Or.inl wb_88⟩
theorem cs_T_32 : CS "OmegaDesk$WordTable" 32 X_P_takenRepeated 1 := ⟨Or.inl wb_462, wb_341, by decide +kernel⟩
def b_T_addWords_4 (c0 : Nat) (c1 : Nat) (c2 : Int32) (s : Int32 × Mm) : Option ((Int32 × Mm) ⊕ (Int32 × Mm)) :=
  if ((2 : Int32) <<< (c2 &&& 31)) ≤ s.1 then
    some (Sum.inr (s.1, s.2))
  else
    if (512 : Int32) ≤ s.1 then
      some (Sum.inr (s.1, s.2))
    else
      ck (inb (s.1 >>> ((1 : Int32) &&& 31)) (lenI (12 + 2 * c0))) <|
      bd (m_A_longerPassage c1 (s.2.1 (1, (12 + 2 * c0)) (s.1 >>> ((1 : Int32) &&& 31)).toNatClampNeg) (s.1 &&& (1 : Int32)) s.2) fun r1 =>
      ck (inb s.1 (lenI (12 + 2 * c0))) <|
      bd (some (uI s.2 (1, (12 + 2 * c0)) s.1.toNatClampNeg r1)) fun M2 =>
      bd (m_P_takenRepeated r1) fun r3 =>
      ck (inb s.1 (lenI (13 + 2 * c0))) <|
      bd (some (uI M2 (1, (13 + 2 * c0)) s.1.toNatClampNeg r3)) fun M4 =>
      some (Sum.inl ((s.1 + 1), M4))
def m_T_addWords (a0 : Nat) (a1 : Nat) (a2 : Int32) (M : Mm) : Option (Mm) :=
  bd (lp (b_T_addWords_4 a0 a1 a2) (((1 : Int32) <<< (a2 &&& 31)), M)) fun r5 =>
  some r5.2
set_option maxRecDepth 20000 in
theorem w_T_addWords_4 {l : Launch} {post : Option PV → Mm → Prop} (c0 : Nat) (c1 : Nat) (c2 : Int32) (h0 : c0 < 2) (h1 : c1 < 7) {r : Int32 × Mm} (kk : Go l X_T_addWords post 60 [(0, vr 7 c0), (1, vr 0 c1), (2, vi c2), (3, vi r.1)] [] r.2) : ∀ (n : Nat) (s : Int32 × Mm), lpN (b_T_addWords_4 c0 c1 c2) n s = some r → Go l X_T_addWords post 4 [(0, vr 7 c0), (1, vr 0 c1), (2, vi c2), (3, vi s.1)] [] s.2 := by
  intro n
  induction n with
  | zero => intro s hc; exact (lpN_0 hc).elim
  | succ n ih =>
    intro s hc
    obtain ⟨q, h, hc⟩ := lpN_inv hc
    unfold b_T_addWords_4 at h
    refine go_iload_n 4 rfl 3 rfl rfl ?_
    refine go_iconst 2 5 rfl (by decide) ?_
    refine go_iload_n 6 rfl 2 rfl rfl ?_
    refine go_ishl 7 rfl ?_
    refine go_icmp_ge 60 8 rfl (by decide) (fun c => ?_) (fun c => ?_)
    · replace h := ite_t c h
      cases h
      obtain rfl := lpq_r hc
      exact kk
    · replace h := ite_f c h
      refine go_iload_n 9 rfl 3 rfl rfl ?_
      refine go_sipush 512 10 rfl (by decide) ?_
      refine go_icmp_ge 60 11 rfl (by decide) (fun c => ?_) (fun c => ?_)
      · replace h := ite_t c h
        cases h
        obtain rfl := lpq_r hc
        exact kk
      · replace h := ite_f c h
        refine go_aload_n 12 rfl 1 rfl rfl ?_
        refine go_aload_n 13 rfl 0 rfl rfl ?_
        refine go_getfield 0 _ 14 rfl (by first | decide | exact ok0 (by omega) | exact ok1 (by omega) | exact ok2 (by omega) | exact ok7 (by omega)) rfl fg_T_11 rfl ?_
        refine go_iload_n 15 rfl 3 rfl rfl ?_
        refine go_iconst 1 16 rfl (by decide) ?_
        refine go_ishr 17 rfl ?_
        obtain ⟨c, h⟩ := ck_inv h
        refine go_iaload 18 rfl (by first | decide | exact ok0 (by omega) | exact ok1 (by omega) | exact ok2 (by omega) | exact ok7 (by omega)) (inb_vp c) ?_
        refine go_iload_n 19 rfl 3 rfl rfl ?_
        refine go_iconst 1 20 rfl (by decide) ?_
        refine go_iand 21 rfl ?_
        obtain ⟨r1, c, h⟩ := bd_inv h
        refine go_callV1 _ 22 rfl (e_A_longerPassage (by omega) c) mk_A_longerPassage (by first | decide | exact ok0 (by omega) | exact ok1 (by omega) | exact ok2 (by omega) | exact ok7 (by omega)) rfl cv_T_28 rfl ⟨(Nat.le_of_ble_eq_true rfl), (Nat.le_of_ble_eq_true rfl)⟩ (Nat.le_of_ble_eq_true rfl) rfl ?_
        refine go_istore 23 rfl (Nat.le_of_ble_eq_true rfl) [(0, _), (1, _), (2, _), (3, _), (4, _)] rfl ?_
        refine go_aload_n 24 rfl 0 rfl rfl ?_
        refine go_getfield 0 _ 25 rfl (by first | decide | exact ok0 (by omega) | exact ok1 (by omega) | exact ok2 (by omega) | exact ok7 (by omega)) rfl fg_T_11 rfl ?_
        refine go_iload_n 26 rfl 3 rfl rfl ?_
        refine go_iload 27 rfl 4 rfl ?_
        obtain ⟨c, h⟩ := ck_inv h
        refine go_iastore 28 rfl (by first | decide | exact ok0 (by omega) | exact ok1 (by omega) | exact ok2 (by omega) | exact ok7 (by omega)) (inb_vp c) ?_
        obtain ⟨_, c, h⟩ := bd_inv h
        cases c
        refine go_aload_n 29 rfl 0 rfl rfl ?_
        refine go_getfield 1 _ 30 rfl (by first | decide | exact ok0 (by omega) | exact ok1 (by omega) | exact ok2 (by omega) | exact ok7 (by omega)) rfl fg_T_15 rfl ?_
        refine go_iload_n 31 rfl 3 rfl rfl ?_
        refine go_iload 32 rfl 4 rfl ?_
        obtain ⟨r3, c, h⟩ := bd_inv h
        refine go_callS1 _ 33 rfl (e_P_takenRepeated c) mk_P_takenRepeated cs_T_32 rfl ⟨(Nat.le_of_ble_eq_true rfl), (Nat.le_of_ble_eq_true rfl)⟩ (Nat.le_of_ble_eq_true rfl) rfl ?_
        obtain ⟨c, h⟩ := ck_inv h
        refine go_iastore 34 rfl (by first | decide | exact ok0 (by omega) | exact ok1 (by omega) | exact ok2 (by omega) | exact ok7 (by omega)) (inb_vp c) ?_
        obtain ⟨_, c, h⟩ := bd_inv h
        cases c
        refine go_iinc 1 35 rfl 3 rfl (by decide) (Nat.le_of_ble_eq_true rfl) [(0, _), (1, _), (2, _), (3, _), (4, _)] rfl ?_
        refine go_goto 4 36 rfl (by decide) ?_
        cases h
        refine go_sub [0, 1, 2, 3] rfl ?_
        have g9 := ih _ hc
        exact g9
set_option maxRecDepth 20000 in
theorem e_T_addWords {l : Launch} {a0 : Nat} {a1 : Nat} {a2 : Int32} {M : Mm} {r : Mm} (h0 : a0 < 2) (h1 : a1 < 7) (h : m_T_addWords a0 a1 a2 M = some r) : Ev l X_T_addWords [vr 7 a0, vr 0 a1, vi a2] M (fun v M2 => v = none ∧ M2 = r) := by
  refine Ev.of mk_T_addWords [(0, vr 7 a0), (1, vr 0 a1), (2, vi a2)] (fun _ => rfl) (fun _ => (Nat.le_of_ble_eq_true rfl)) ?_
  unfold m_T_addWords at h
  refine go_iconst 1 0 rfl (by decide) ?_
  refine go_iload_n 1 rfl 2 rfl rfl ?_
  refine go_ishl 2 rfl ?_
  refine go_istore_n 3 rfl rfl (Nat.le_of_ble_eq_true rfl) [(0, _), (1, _), (2, _), (3, _)] rfl ?_
  obtain ⟨r5, c, h⟩ := bd_inv h
  refine w_T_addWords_4 _ _ _ (by omega) (by omega) ?_ _ _ c
  cases h
  exact go_return 37 rfl rfl ⟨rfl, rfl⟩
def X_T_takesLasso : MX := (⟨"OmegaDesk$WordTable", "takesLasso", "(II)Z"⟩, prog_6_method_4_code, 3, some .boolean, { frames := 2, cells := 0, slots := 0, locals := 41 },
  [(0, .aload_n 0, 1), (1, .getfield 11, 4), (4, .iload_n 1, 5), (5, .iaload, 6), (6, .invokestatic 36, 9), (9, .aload_n 0, 10), (10, .getfield 15, 13), (13, .iload_n 2, 14), (14, .iaload, 15), (15, .iand, 16), (16, .ifCond .eq 7, 19), (19, .iconst 1, 20), (20, .goto 4, 23), (23, .iconst 0, 24), (24, .ireturn, 25)])
set_option maxRecDepth 20000 in
theorem mk_T_takesLasso : Mk X_T_takesLasso := ⟨by unfold TBk; decide +kernel, by decide +kernel, wb_470, ⟨by decide, by decide⟩, rfl, rfl, wb_5⟩
theorem cs_T_36 : CS "OmegaDesk$WordTable" 36 X_P_fromStart 1 := ⟨Or.inl wb_471, wb_338, by decide +kernel⟩
def m_T_takesLasso (a0 : Nat) (a1 : Int32) (a2 : Int32) (M : Mm) : Option (Bool) :=
  ck (inb a1 (lenI (12 + 2 * a0))) <|
  bd (m_P_fromStart (M.1 (1, (12 + 2 * a0)) a1.toNatClampNeg)) fun r1 =>
  ck (inb a2 (lenI (13 + 2 * a0))) <|
  if (r1 &&& (M.1 (1, (13 + 2 * a0)) a2.toNatClampNeg)) = 0 then
    some false
  else
    some true
set_option maxRecDepth 20000 in
theorem e_T_takesLasso {l : Launch} {a0 : Nat} {a1 : Int32} {a2 : Int32} {M : Mm} {r : Bool} (h0 : a0 < 2) (h : m_T_takesLasso a0 a1 a2 M = some r) : Ev l X_T_takesLasso [vr 7 a0, vi a1, vi a2] M (fun v M2 => v = (some (vi (bI r))) ∧ M2 = M) := by
  refine Ev.of mk_T_takesLasso [(0, vr 7 a0), (1, vi a1), (2, vi a2)] (fun _ => rfl) (fun _ => (Nat.le_of_ble_eq_true rfl)) ?_
  unfold m_T_takesLasso at h
  refine go_aload_n 0 rfl 0 rfl rfl ?_
  refine go_getfield 0 _ 1 rfl (by first | decide | exact ok0 (by omega) | exact ok1 (by omega) | exact ok2 (by omega) | exact ok7 (by omega)) rfl fg_T_11 rfl ?_
  refine go_iload_n 2 rfl 1 rfl rfl ?_
  obtain ⟨c, h⟩ := ck_inv h
  refine go_iaload 3 rfl (by first | decide | exact ok0 (by omega) | exact ok1 (by omega) | exact ok2 (by omega) | exact ok7 (by omega)) (inb_vp c) ?_
  obtain ⟨r1, c, h⟩ := bd_inv h
  refine go_callS1 _ 4 rfl (e_P_fromStart c) mk_P_fromStart cs_T_36 rfl ⟨(Nat.le_of_ble_eq_true rfl), (Nat.le_of_ble_eq_true rfl)⟩ (Nat.le_of_ble_eq_true rfl) rfl ?_
  refine go_aload_n 5 rfl 0 rfl rfl ?_
  refine go_getfield 1 _ 6 rfl (by first | decide | exact ok0 (by omega) | exact ok1 (by omega) | exact ok2 (by omega) | exact ok7 (by omega)) rfl fg_T_15 rfl ?_
  refine go_iload_n 7 rfl 2 rfl rfl ?_
  obtain ⟨c, h⟩ := ck_inv h
  refine go_iaload 8 rfl (by first | decide | exact ok0 (by omega) | exact ok1 (by omega) | exact ok2 (by omega) | exact ok7 (by omega)) (inb_vp c) ?_
  refine go_iand 9 rfl ?_
  refine go_if_eq 23 10 rfl (by decide) (fun c => ?_) (fun c => ?_)
  · replace h := ite_t c h
    refine go_iconst 0 13 rfl (by decide) ?_
    cases h
    exact go_ireturn 14 rfl rfl rfl ⟨rfl, rfl⟩
  · replace h := ite_f c h
    refine go_iconst 1 11 rfl (by decide) ?_
    refine go_goto 24 12 rfl (by decide) ?_
    cases h
    exact go_ireturn 14 rfl rfl rfl ⟨rfl, rfl⟩
