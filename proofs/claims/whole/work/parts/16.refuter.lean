def X_R_reset : MX := (⟨"OmegaDesk$Refuter", "reset", "()V"⟩, prog_5_method_3_code, 1, none, { frames := 1, cells := 0, slots := 0, locals := 23 },
  [(0, .aload_n 0, 1), (1, .getfield 11, 4), (4, .iconst 0, 5), (5, .invokestatic 69, 8), (8, .aload_n 0, 9), (9, .getfield 15, 12), (12, .iconst 0, 13), (13, .invokestatic 69, 16), (16, .aload_n 0, 17), (17, .getfield 18, 20), (20, .iconst 0, 21), (21, .invokestatic 69, 24), (24, .aload_n 0, 25), (25, .getfield 31, 28), (28, .iconst 0, 29), (29, .invokestatic 69, 32), (32, .aload_n 0, 33), (33, .iconst 0, 34), (34, .putfield 24, 37), (37, .aload_n 0, 38), (38, .iconst 0, 39), (39, .putfield 28, 42), (42, .return_, 43)])
set_option maxRecDepth 20000 in
theorem mk_R_reset : Mk X_R_reset := ⟨by unfold TBk; decide +kernel, by decide +kernel, wb_407, ⟨by decide, by decide⟩, rfl, rfl, wb_3⟩
theorem fg_R_11 : FG "OmegaDesk$Refuter" 11 5 0 := ⟨R_R, F_R, 7, rfl, by decide, uw_R, Or.inl wb_53⟩
theorem cs_R_69 : CS "OmegaDesk$Refuter" 69 X_Y_fill 2 := ⟨Or.inl wb_408, wb_276, by decide +kernel⟩
theorem fg_R_15 : FG "OmegaDesk$Refuter" 15 5 1 := ⟨R_R, F_R, 7, rfl, by decide, uw_R, Or.inl wb_54⟩
theorem fg_R_18 : FG "OmegaDesk$Refuter" 18 5 2 := ⟨R_R, F_R, 7, rfl, by decide, uw_R, Or.inl wb_55⟩
theorem fg_R_31 : FG "OmegaDesk$Refuter" 31 5 6 := ⟨R_R, F_R, 7, rfl, by decide, uw_R, Or.inl wb_59⟩
theorem fp_R_24 : FP "OmegaDesk$Refuter" 24 5 4 .int := ⟨R_R, F_R, 7, tf_R, rfl, by decide, uw_R, Or.inl wb_57, tf_R_ok, nf_R, rfl, by decide +kernel⟩
theorem fp_R_28 : FP "OmegaDesk$Refuter" 28 5 5 .int := ⟨R_R, F_R, 7, tf_R, rfl, by decide, uw_R, Or.inl wb_58, tf_R_ok, nf_R, rfl, by decide +kernel⟩
def m_R_reset  (M : Mm) : Option (Mm) :=
  bd (m_Y_fill 7 (0 : Int32) M) fun r1 =>
  bd (m_Y_fill 8 (0 : Int32) r1) fun r2 =>
  bd (m_Y_fill 9 (0 : Int32) r2) fun r3 =>
  bd (m_Y_fill 11 (0 : Int32) r3) fun r4 =>
  bd (some (uI r4 (5, 0) 4 (0 : Int32))) fun M5 =>
  bd (some (uI M5 (5, 0) 5 (0 : Int32))) fun M6 =>
  some M6
set_option maxRecDepth 20000 in
theorem e_R_reset {l : Launch}  {M : Mm} {r : Mm}  (h : m_R_reset  M = some r) : Ev l X_R_reset [vr 5 0] M (fun v M2 => v = none ∧ M2 = r) := by
  refine Ev.of mk_R_reset [(0, vr 5 0)] (fun _ => rfl) (fun _ => (Nat.le_of_ble_eq_true rfl)) ?_
  unfold m_R_reset at h
  refine go_aload_n 0 rfl 0 rfl rfl ?_
  refine go_getfield 0 _ 1 rfl (by first | decide | exact ok0 (by omega) | exact ok1 (by omega) | exact ok2 (by omega) | exact ok7 (by omega)) rfl fg_R_11 rfl ?_
  refine go_iconst 0 2 rfl (by decide) ?_
  obtain ⟨r1, c, h⟩ := bd_inv h
  refine go_callS1 _ 3 rfl (e_Y_fill (by omega) c) mk_Y_fill cs_R_69 rfl ⟨(Nat.le_of_ble_eq_true rfl), (Nat.le_of_ble_eq_true rfl)⟩ (Nat.le_of_ble_eq_true rfl) rfl ?_
  refine go_aload_n 4 rfl 0 rfl rfl ?_
  refine go_getfield 1 _ 5 rfl (by first | decide | exact ok0 (by omega) | exact ok1 (by omega) | exact ok2 (by omega) | exact ok7 (by omega)) rfl fg_R_15 rfl ?_
  refine go_iconst 0 6 rfl (by decide) ?_
  obtain ⟨r2, c, h⟩ := bd_inv h
  refine go_callS1 _ 7 rfl (e_Y_fill (by omega) c) mk_Y_fill cs_R_69 rfl ⟨(Nat.le_of_ble_eq_true rfl), (Nat.le_of_ble_eq_true rfl)⟩ (Nat.le_of_ble_eq_true rfl) rfl ?_
  refine go_aload_n 8 rfl 0 rfl rfl ?_
  refine go_getfield 2 _ 9 rfl (by first | decide | exact ok0 (by omega) | exact ok1 (by omega) | exact ok2 (by omega) | exact ok7 (by omega)) rfl fg_R_18 rfl ?_
  refine go_iconst 0 10 rfl (by decide) ?_
  obtain ⟨r3, c, h⟩ := bd_inv h
  refine go_callS1 _ 11 rfl (e_Y_fill (by omega) c) mk_Y_fill cs_R_69 rfl ⟨(Nat.le_of_ble_eq_true rfl), (Nat.le_of_ble_eq_true rfl)⟩ (Nat.le_of_ble_eq_true rfl) rfl ?_
  refine go_aload_n 12 rfl 0 rfl rfl ?_
  refine go_getfield 6 _ 13 rfl (by first | decide | exact ok0 (by omega) | exact ok1 (by omega) | exact ok2 (by omega) | exact ok7 (by omega)) rfl fg_R_31 rfl ?_
  refine go_iconst 0 14 rfl (by decide) ?_
  obtain ⟨r4, c, h⟩ := bd_inv h
  refine go_callS1 _ 15 rfl (e_Y_fill (by omega) c) mk_Y_fill cs_R_69 rfl ⟨(Nat.le_of_ble_eq_true rfl), (Nat.le_of_ble_eq_true rfl)⟩ (Nat.le_of_ble_eq_true rfl) rfl ?_
  refine go_aload_n 16 rfl 0 rfl rfl ?_
  refine go_iconst 0 17 rfl (by decide) ?_
  refine go_putfield 4 .int 18 rfl (by first | decide | exact ok0 (by omega) | exact ok1 (by omega) | exact ok2 (by omega) | exact ok7 (by omega)) rfl fp_R_24 rfl rfl (Nat.le_of_ble_eq_true rfl) rfl ?_
  obtain ⟨_, c, h⟩ := bd_inv h
  cases c
  refine go_aload_n 19 rfl 0 rfl rfl ?_
  refine go_iconst 0 20 rfl (by decide) ?_
  refine go_putfield 5 .int 21 rfl (by first | decide | exact ok0 (by omega) | exact ok1 (by omega) | exact ok2 (by omega) | exact ok7 (by omega)) rfl fp_R_28 rfl rfl (Nat.le_of_ble_eq_true rfl) rfl ?_
  obtain ⟨_, c, h⟩ := bd_inv h
  cases c
  cases h
  exact go_return 22 rfl rfl ⟨rfl, rfl⟩
def X_R_spreadMeeting : MX := (⟨"OmegaDesk$Refuter", "spreadMeeting", "(LOmegaDesk$Automaton;LOmegaDesk$Automaton;II)Z"⟩, prog_5_method_5_code, 10, some .boolean, { frames := 1, cells := 0, slots := 0, locals := 22 },
  [(0, .iconst 0, 1), (1, .istore 5, 3), (3, .iconst 0, 4), (4, .istore 6, 6), (6, .iload 6, 8), (8, .iconst 2, 9), (9, .if_icmp .ge 88, 12), (12, .aload_n 1, 13), (13, .iconst 1, 14), (14, .iload_n 3, 15), (15, .ishl, 16), (16, .iload 6, 18), (18, .invokevirtual 82, 21), (21, .istore 7, 23), (23, .iconst 1, 24), (24, .aload_n 2, 25), (25, .iload 4, 27), (27, .iload 6, 29), (29, .invokevirtual 82, 32), (32, .ishl, 33), (33, .istore 8, 35), (35, .iconst 0, 36), (36, .istore 9, 38), (38, .iload 9, 40), (40, .aload_n 1, 41), (41, .getfield 75, 44), (44, .if_icmp .ge 47, 47), (47, .iload 7, 49), (49, .iload 9, 51), (51, .ishr, 52), (52, .iconst 1, 53), (53, .iand, 54), (54, .ifCond .eq 31, 57), (57, .aload_n 0, 58), (58, .getfield 31, 61), (61, .iload 9, 63), (63, .iaload, 64), (64, .iload 8, 66), (66, .iand, 67), (67, .ifCond .ne 18, 70), (70, .aload_n 0, 71), (71, .getfield 31, 74), (74, .iload 9, 76), (76, .dup2, 77), (77, .iaload, 78), (78, .iload 8, 80), (80, .ior, 81), (81, .iastore, 82), (82, .iconst 1, 83), (83, .istore 5, 85), (85, .iinc 9 1, 88), (88, .goto (-50), 91), (91, .iinc 6 1, 94), (94, .goto (-88), 97), (97, .iload 5, 99), (99, .ireturn, 100)])
set_option maxRecDepth 20000 in
theorem mk_R_spreadMeeting : Mk X_R_spreadMeeting := ⟨by unfold TBk; decide +kernel, by decide +kernel, wb_416, ⟨by decide, by decide⟩, rfl, rfl, wb_3⟩
theorem cv_R_82 : CV "OmegaDesk$Refuter" 82 X_A_followersOf 2 0 := ⟨Or.inl wb_417, ⟨wb_257, wb_258⟩, by decide +kernel, F_A, 3, rfl⟩
theorem fg_R_75 : FG "OmegaDesk$Refuter" 75 0 0 := ⟨R_A, F_A, 3, rfl, by decide, uw_A, Or.inr ⟨_, nw_35⟩⟩
def b_R_spreadMeeting_38 (c1 : Nat) (c7 : Int32) (c8 : Int32) (s : Int32 × Int32 × Mm) : Option ((Int32 × Int32 × Mm) ⊕ (Int32 × Int32 × Mm)) :=
  if (s.2.2.1 (0, c1) 0) ≤ s.2.1 then
    some (Sum.inr (s.1, s.2.1, s.2.2))
  else
    if ((c7 >>> (s.2.1 &&& 31)) &&& (1 : Int32)) = 0 then
      some (Sum.inl (s.1, (s.2.1 + 1), s.2.2))
    else
      ck (inb s.2.1 (lenI 11)) <|
      if ((s.2.2.1 (1, 11) s.2.1.toNatClampNeg) &&& c8) = 0 then
        ck (inb s.2.1 (lenI 11)) <|
        ck (inb s.2.1 (lenI 11)) <|
        bd (some (uI s.2.2 (1, 11) s.2.1.toNatClampNeg ((s.2.2.1 (1, 11) s.2.1.toNatClampNeg) ||| c8))) fun M3 =>
        some (Sum.inl ((1 : Int32), (s.2.1 + 1), M3))
      else
        some (Sum.inl (s.1, (s.2.1 + 1), s.2.2))
def b_R_spreadMeeting_6 (c1 : Nat) (c2 : Nat) (c3 : Int32) (c4 : Int32) (s : Int32 × Int32 × Mm) : Option ((Int32 × Int32 × Mm) ⊕ (Int32 × Int32 × Mm)) :=
  if (2 : Int32) ≤ s.2.1 then
    some (Sum.inr (s.1, s.2.1, s.2.2))
  else
    bd (m_A_followersOf c1 ((1 : Int32) <<< (c3 &&& 31)) s.2.1 s.2.2) fun r1 =>
    bd (m_A_followersOf c2 c4 s.2.1 s.2.2) fun r2 =>
    bd (lp (b_R_spreadMeeting_38 c1 r1 ((1 : Int32) <<< (r2 &&& 31))) (s.1, (0 : Int32), s.2.2)) fun r4 =>
    some (Sum.inl (r4.1, (s.2.1 + 1), r4.2.2))
def m_R_spreadMeeting (a1 : Nat) (a2 : Nat) (a3 : Int32) (a4 : Int32) (M : Mm) : Option (Bool × Mm) :=
  bd (lp (b_R_spreadMeeting_6 a1 a2 a3 a4) ((0 : Int32), (0 : Int32), M)) fun r5 =>
  ck (isb r5.1) <|
  some ((tb r5.1), r5.2.2)
set_option maxRecDepth 20000 in
theorem w_R_spreadMeeting_38 {l : Launch} {post : Option PV → Mm → Prop} (c1 : Nat) (c2 : Nat) (c3 : Int32) (c4 : Int32) (c6 : Int32) (c7 : Int32) (c8 : Int32) (h1 : c1 < 7) (h2 : c2 < 7) {r : Int32 × Int32 × Mm} (kk : Go l X_R_spreadMeeting post 91 [(0, vr 5 0), (1, vr 0 c1), (2, vr 0 c2), (3, vi c3), (4, vi c4), (5, vi r.1), (6, vi c6), (7, vi c7), (8, vi c8), (9, vi r.2.1)] [] r.2.2) : ∀ (n : Nat) (s : Int32 × Int32 × Mm), lpN (b_R_spreadMeeting_38 c1 c7 c8) n s = some r → Go l X_R_spreadMeeting post 38 [(0, vr 5 0), (1, vr 0 c1), (2, vr 0 c2), (3, vi c3), (4, vi c4), (5, vi s.1), (6, vi c6), (7, vi c7), (8, vi c8), (9, vi s.2.1)] [] s.2.2 := by
  intro n
  induction n with
  | zero => intro s hc; exact (lpN_0 hc).elim
  | succ n ih =>
    intro s hc
    obtain ⟨q, h, hc⟩ := lpN_inv hc
    unfold b_R_spreadMeeting_38 at h
    refine go_iload 23 rfl 9 rfl ?_
    refine go_aload_n 24 rfl 1 rfl rfl ?_
    refine go_getfield 0 _ 25 rfl (by first | decide | exact ok0 (by omega) | exact ok1 (by omega) | exact ok2 (by omega) | exact ok7 (by omega)) rfl fg_R_75 rfl ?_
    refine go_icmp_ge 91 26 rfl (by decide) (fun c => ?_) (fun c => ?_)
    · replace h := ite_t c h
      cases h
      obtain rfl := lpq_r hc
      exact kk
    · replace h := ite_f c h
      refine go_iload 27 rfl 7 rfl ?_
      refine go_iload 28 rfl 9 rfl ?_
      refine go_ishr 29 rfl ?_
      refine go_iconst 1 30 rfl (by decide) ?_
      refine go_iand 31 rfl ?_
      refine go_if_eq 85 32 rfl (by decide) (fun c => ?_) (fun c => ?_)
      · replace h := ite_t c h
        refine go_iinc 1 50 rfl 9 rfl (by decide) (Nat.le_of_ble_eq_true rfl) [(0, _), (1, _), (2, _), (3, _), (4, _), (5, _), (6, _), (7, _), (8, _), (9, _)] rfl ?_
        refine go_goto 38 51 rfl (by decide) ?_
        cases h
        have g9 := ih _ hc
        exact g9
      · replace h := ite_f c h
        refine go_aload_n 33 rfl 0 rfl rfl ?_
        refine go_getfield 6 _ 34 rfl (by first | decide | exact ok0 (by omega) | exact ok1 (by omega) | exact ok2 (by omega) | exact ok7 (by omega)) rfl fg_R_31 rfl ?_
        refine go_iload 35 rfl 9 rfl ?_
        obtain ⟨c, h⟩ := ck_inv h
        refine go_iaload 36 rfl (by first | decide | exact ok0 (by omega) | exact ok1 (by omega) | exact ok2 (by omega) | exact ok7 (by omega)) (inb_vp c) ?_
        refine go_iload 37 rfl 8 rfl ?_
        refine go_iand 38 rfl ?_
        refine go_if_ne 85 39 rfl (by decide) (fun c => ?_) (fun c => ?_)
        · replace h := ite_f c h
          refine go_iinc 1 50 rfl 9 rfl (by decide) (Nat.le_of_ble_eq_true rfl) [(0, _), (1, _), (2, _), (3, _), (4, _), (5, _), (6, _), (7, _), (8, _), (9, _)] rfl ?_
          refine go_goto 38 51 rfl (by decide) ?_
          cases h
          have g9 := ih _ hc
          exact g9
        · replace h := ite_t c h
          refine go_aload_n 40 rfl 0 rfl rfl ?_
          refine go_getfield 6 _ 41 rfl (by first | decide | exact ok0 (by omega) | exact ok1 (by omega) | exact ok2 (by omega) | exact ok7 (by omega)) rfl fg_R_31 rfl ?_
          refine go_iload 42 rfl 9 rfl ?_
          refine go_dup2 43 rfl rfl rfl ?_
          obtain ⟨c, h⟩ := ck_inv h
          refine go_iaload 44 rfl (by first | decide | exact ok0 (by omega) | exact ok1 (by omega) | exact ok2 (by omega) | exact ok7 (by omega)) (inb_vp c) ?_
          refine go_iload 45 rfl 8 rfl ?_
          refine go_ior 46 rfl ?_
          obtain ⟨c, h⟩ := ck_inv h
          refine go_iastore 47 rfl (by first | decide | exact ok0 (by omega) | exact ok1 (by omega) | exact ok2 (by omega) | exact ok7 (by omega)) (inb_vp c) ?_
          obtain ⟨_, c, h⟩ := bd_inv h
          cases c
          refine go_iconst 1 48 rfl (by decide) ?_
          refine go_istore 49 rfl (Nat.le_of_ble_eq_true rfl) [(0, _), (1, _), (2, _), (3, _), (4, _), (5, _), (6, _), (7, _), (8, _), (9, _)] rfl ?_
          refine go_iinc 1 50 rfl 9 rfl (by decide) (Nat.le_of_ble_eq_true rfl) [(0, _), (1, _), (2, _), (3, _), (4, _), (5, _), (6, _), (7, _), (8, _), (9, _)] rfl ?_
          refine go_goto 38 51 rfl (by decide) ?_
          cases h
          have g9 := ih _ hc
          exact g9
set_option maxRecDepth 20000 in
theorem w_R_spreadMeeting_6 {l : Launch} {post : Option PV → Mm → Prop} (c1 : Nat) (c2 : Nat) (c3 : Int32) (c4 : Int32) (h1 : c1 < 7) (h2 : c2 < 7) {r : Int32 × Int32 × Mm} (kk : Go l X_R_spreadMeeting post 97 [(0, vr 5 0), (1, vr 0 c1), (2, vr 0 c2), (3, vi c3), (4, vi c4), (5, vi r.1), (6, vi r.2.1)] [] r.2.2) : ∀ (n : Nat) (s : Int32 × Int32 × Mm), lpN (b_R_spreadMeeting_6 c1 c2 c3 c4) n s = some r → Go l X_R_spreadMeeting post 6 [(0, vr 5 0), (1, vr 0 c1), (2, vr 0 c2), (3, vi c3), (4, vi c4), (5, vi s.1), (6, vi s.2.1)] [] s.2.2 := by
  intro n
  induction n with
  | zero => intro s hc; exact (lpN_0 hc).elim
  | succ n ih =>
    intro s hc
    obtain ⟨q, h, hc⟩ := lpN_inv hc
    unfold b_R_spreadMeeting_6 at h
    refine go_iload 4 rfl 6 rfl ?_
    refine go_iconst 2 5 rfl (by decide) ?_
    refine go_icmp_ge 97 6 rfl (by decide) (fun c => ?_) (fun c => ?_)
    · replace h := ite_t c h
      cases h
      obtain rfl := lpq_r hc
      exact kk
    · replace h := ite_f c h
      refine go_aload_n 7 rfl 1 rfl rfl ?_
      refine go_iconst 1 8 rfl (by decide) ?_
      refine go_iload_n 9 rfl 3 rfl rfl ?_
      refine go_ishl 10 rfl ?_
      refine go_iload 11 rfl 6 rfl ?_
      obtain ⟨r1, c, h⟩ := bd_inv h
      refine go_callV1 _ 12 rfl (e_A_followersOf (by omega) c) mk_A_followersOf (by first | decide | exact ok0 (by omega) | exact ok1 (by omega) | exact ok2 (by omega) | exact ok7 (by omega)) rfl cv_R_82 rfl ⟨(Nat.le_of_ble_eq_true rfl), (Nat.le_of_ble_eq_true rfl)⟩ (Nat.le_of_ble_eq_true rfl) rfl ?_
      refine go_istore 13 rfl (Nat.le_of_ble_eq_true rfl) [(0, _), (1, _), (2, _), (3, _), (4, _), (5, _), (6, _), (7, _)] rfl ?_
      refine go_iconst 1 14 rfl (by decide) ?_
      refine go_aload_n 15 rfl 2 rfl rfl ?_
      refine go_iload 16 rfl 4 rfl ?_
      refine go_iload 17 rfl 6 rfl ?_
      obtain ⟨r2, c, h⟩ := bd_inv h
      refine go_callV1 _ 18 rfl (e_A_followersOf (by omega) c) mk_A_followersOf (by first | decide | exact ok0 (by omega) | exact ok1 (by omega) | exact ok2 (by omega) | exact ok7 (by omega)) rfl cv_R_82 rfl ⟨(Nat.le_of_ble_eq_true rfl), (Nat.le_of_ble_eq_true rfl)⟩ (Nat.le_of_ble_eq_true rfl) rfl ?_
      refine go_ishl 19 rfl ?_
      refine go_istore 20 rfl (Nat.le_of_ble_eq_true rfl) [(0, _), (1, _), (2, _), (3, _), (4, _), (5, _), (6, _), (7, _), (8, _)] rfl ?_
      refine go_iconst 0 21 rfl (by decide) ?_
      refine go_istore 22 rfl (Nat.le_of_ble_eq_true rfl) [(0, _), (1, _), (2, _), (3, _), (4, _), (5, _), (6, _), (7, _), (8, _), (9, _)] rfl ?_
      obtain ⟨r4, c, h⟩ := bd_inv h
      refine w_R_spreadMeeting_38 _ _ _ _ _ _ _ (by omega) (by omega) ?_ _ _ c
      refine go_iinc 1 52 rfl 6 rfl (by decide) (Nat.le_of_ble_eq_true rfl) [(0, _), (1, _), (2, _), (3, _), (4, _), (5, _), (6, _), (7, _), (8, _), (9, _)] rfl ?_
      refine go_goto 6 53 rfl (by decide) ?_
      cases h
      refine go_sub [0, 1, 2, 3, 4, 5, 6] rfl ?_
      have g9 := ih _ hc
      exact g9
set_option maxRecDepth 20000 in
theorem e_R_spreadMeeting {l : Launch} {a1 : Nat} {a2 : Nat} {a3 : Int32} {a4 : Int32} {M : Mm} {r : Bool × Mm} (h1 : a1 < 7) (h2 : a2 < 7) (h : m_R_spreadMeeting a1 a2 a3 a4 M = some r) : Ev l X_R_spreadMeeting [vr 5 0, vr 0 a1, vr 0 a2, vi a3, vi a4] M (fun v M2 => v = (some (vi (bI r.1))) ∧ M2 = r.2) := by
  refine Ev.of mk_R_spreadMeeting [(0, vr 5 0), (1, vr 0 a1), (2, vr 0 a2), (3, vi a3), (4, vi a4)] (fun _ => rfl) (fun _ => (Nat.le_of_ble_eq_true rfl)) ?_
  unfold m_R_spreadMeeting at h
  refine go_iconst 0 0 rfl (by decide) ?_
  refine go_istore 1 rfl (Nat.le_of_ble_eq_true rfl) [(0, _), (1, _), (2, _), (3, _), (4, _), (5, _)] rfl ?_
  refine go_iconst 0 2 rfl (by decide) ?_
  refine go_istore 3 rfl (Nat.le_of_ble_eq_true rfl) [(0, _), (1, _), (2, _), (3, _), (4, _), (5, _), (6, _)] rfl ?_
  obtain ⟨r5, c, h⟩ := bd_inv h
  refine w_R_spreadMeeting_6 _ _ _ _ (by omega) (by omega) ?_ _ _ c
  refine go_iload 54 rfl 5 rfl ?_
  obtain ⟨c, h⟩ := ck_inv h
  cases h
  exact go_ireturn 55 rfl rfl (isb_n c) ⟨congrArg (fun q => some (vi q)) (isb_e c).symm, rfl⟩
def X_R_findMeetings : MX := (⟨"OmegaDesk$Refuter", "findMeetings", "(LOmegaDesk$Automaton;LOmegaDesk$Automaton;)V"⟩, prog_5_method_4_code, 8, none, { frames := 2, cells := 0, slots := 0, locals := 51 },
  [(0, .aload_n 2, 1), (1, .getfield 75, 4), (4, .ifCond .le 7, 7), (7, .iconst 1, 8), (8, .goto 4, 11), (11, .iconst 0, 12), (12, .istore_n 3, 13), (13, .aload_n 0, 14), (14, .getfield 31, 17), (17, .iconst 0, 18), (18, .iconst 1, 19), (19, .iload_n 3, 20), (20, .ishl, 21), (21, .iastore, 22), (22, .iconst 1, 23), (23, .istore 4, 25), (25, .iconst 0, 26), (26, .istore 5, 28), (28, .iload 5, 30), (30, .bipush 32, 32), (32, .if_icmp .ge 82, 35), (35, .iload 4, 37), (37, .ifCond .eq 77, 40), (40, .iconst 0, 41), (41, .istore 4, 43), (43, .iconst 0, 44), (44, .istore 6, 46), (46, .iload 6, 48), (48, .aload_n 1, 49), (49, .getfield 75, 52), (52, .if_icmp .ge 56, 55), (55, .iconst 0, 56), (56, .istore 7, 58), (58, .iload 7, 60), (60, .bipush 8, 62), (62, .if_icmp .ge 40, 65), (65, .aload_n 0, 66), (66, .getfield 31, 69), (69, .iload 6, 71), (71, .iaload, 72), (72, .iload 7, 74), (74, .ishr, 75), (75, .iconst 1, 76), (76, .iand, 77), (77, .ifCond .eq 19, 80), (80, .aload_n 0, 81), (81, .aload_n 1, 82), (82, .aload_n 2, 83), (83, .iload 6, 85), (85, .iload 7, 87), (87, .invokevirtual 78, 90), (90, .ifCond .eq 6, 93), (93, .iconst 1, 94), (94, .istore 4, 96), (96, .iinc 7 1, 99), (99, .goto (-41), 102), (102, .iinc 6 1, 105), (105, .goto (-59), 108), (108, .iinc 5 1, 111), (111, .goto (-83), 114), (114, .return_, 115)])
set_option maxRecDepth 20000 in
theorem mk_R_findMeetings : Mk X_R_findMeetings := ⟨by unfold TBk; decide +kernel, by decide +kernel, wb_412, ⟨by decide, by decide⟩, rfl, rfl, wb_3⟩
theorem cv_R_78 : CV "OmegaDesk$Refuter" 78 X_R_spreadMeeting 4 5 := ⟨Or.inl wb_413, ⟨wb_415, ws_R_spreadMeeting⟩, by decide +kernel, F_R, 7, rfl⟩
def b_R_findMeetings_58 (c1 : Nat) (c2 : Nat) (c6 : Int32) (s : Int32 × Int32 × Mm) : Option ((Int32 × Int32 × Mm) ⊕ (Int32 × Int32 × Mm)) :=
  if (8 : Int32) ≤ s.2.1 then
    some (Sum.inr (s.1, s.2.1, s.2.2))
  else
    ck (inb c6 (lenI 11)) <|
    if (((s.2.2.1 (1, 11) c6.toNatClampNeg) >>> (s.2.1 &&& 31)) &&& (1 : Int32)) = 0 then
      some (Sum.inl (s.1, (s.2.1 + 1), s.2.2))
    else
      bd (m_R_spreadMeeting c1 c2 c6 s.2.1 s.2.2) fun r2 =>
      if (bI r2.1) = 0 then
        some (Sum.inl (s.1, (s.2.1 + 1), r2.2))
      else
        some (Sum.inl ((1 : Int32), (s.2.1 + 1), r2.2))
def b_R_findMeetings_46 (c1 : Nat) (c2 : Nat) (s : Int32 × Int32 × Mm) : Option ((Int32 × Int32 × Mm) ⊕ (Int32 × Int32 × Mm)) :=
  if (s.2.2.1 (0, c1) 0) ≤ s.2.1 then
    some (Sum.inr (s.1, s.2.1, s.2.2))
  else
    bd (lp (b_R_findMeetings_58 c1 c2 s.2.1) (s.1, (0 : Int32), s.2.2)) fun r3 =>
    some (Sum.inl (r3.1, (s.2.1 + 1), r3.2.2))
def b_R_findMeetings_28 (c1 : Nat) (c2 : Nat) (s : Int32 × Int32 × Mm) : Option ((Int32 × Int32 × Mm) ⊕ (Int32 × Int32 × Mm)) :=
  if (32 : Int32) ≤ s.2.1 then
    some (Sum.inr (s.1, s.2.1, s.2.2))
  else
    if s.1 = 0 then
      some (Sum.inr (s.1, s.2.1, s.2.2))
    else
      bd (lp (b_R_findMeetings_46 c1 c2) ((0 : Int32), (0 : Int32), s.2.2)) fun r4 =>
      some (Sum.inl (r4.1, (s.2.1 + 1), r4.2.2))
def m_R_findMeetings (a1 : Nat) (a2 : Nat) (M : Mm) : Option (Mm) :=
  if (M.1 (0, a2) 0) ≤ 0 then
    ck (inb (0 : Int32) (lenI 11)) <|
    bd (some (uI M (1, 11) (0 : Int32).toNatClampNeg ((1 : Int32) <<< ((0 : Int32) &&& 31)))) fun M1 =>
    bd (lp (b_R_findMeetings_28 a1 a2) ((1 : Int32), (0 : Int32), M1)) fun r5 =>
    some r5.2.2
  else
    ck (inb (0 : Int32) (lenI 11)) <|
    bd (some (uI M (1, 11) (0 : Int32).toNatClampNeg ((1 : Int32) <<< ((1 : Int32) &&& 31)))) fun M6 =>
    bd (lp (b_R_findMeetings_28 a1 a2) ((1 : Int32), (0 : Int32), M6)) fun r7 =>
    some r7.2.2
set_option maxRecDepth 20000 in
theorem w_R_findMeetings_58 {l : Launch} {post : Option PV → Mm → Prop} (c1 : Nat) (c2 : Nat) (c3 : Int32) (c5 : Int32) (c6 : Int32) (h1 : c1 < 7) (h2 : c2 < 7) {r : Int32 × Int32 × Mm} (kk : Go l X_R_findMeetings post 102 [(0, vr 5 0), (1, vr 0 c1), (2, vr 0 c2), (3, vi c3), (4, vi r.1), (5, vi c5), (6, vi c6), (7, vi r.2.1)] [] r.2.2) : ∀ (n : Nat) (s : Int32 × Int32 × Mm), lpN (b_R_findMeetings_58 c1 c2 c6) n s = some r → Go l X_R_findMeetings post 58 [(0, vr 5 0), (1, vr 0 c1), (2, vr 0 c2), (3, vi c3), (4, vi s.1), (5, vi c5), (6, vi c6), (7, vi s.2.1)] [] s.2.2 := by
  intro n
  induction n with
  | zero => intro s hc; exact (lpN_0 hc).elim
  | succ n ih =>
    intro s hc
    obtain ⟨q, h, hc⟩ := lpN_inv hc
    unfold b_R_findMeetings_58 at h
    refine go_iload 33 rfl 7 rfl ?_
    refine go_bipush 8 34 rfl (by decide) ?_
    refine go_icmp_ge 102 35 rfl (by decide) (fun c => ?_) (fun c => ?_)
    · replace h := ite_t c h
      cases h
      obtain rfl := lpq_r hc
      exact kk
    · replace h := ite_f c h
      refine go_aload_n 36 rfl 0 rfl rfl ?_
      refine go_getfield 6 _ 37 rfl (by first | decide | exact ok0 (by omega) | exact ok1 (by omega) | exact ok2 (by omega) | exact ok7 (by omega)) rfl fg_R_31 rfl ?_
      refine go_iload 38 rfl 6 rfl ?_
      obtain ⟨c, h⟩ := ck_inv h
      refine go_iaload 39 rfl (by first | decide | exact ok0 (by omega) | exact ok1 (by omega) | exact ok2 (by omega) | exact ok7 (by omega)) (inb_vp c) ?_
      refine go_iload 40 rfl 7 rfl ?_
      refine go_ishr 41 rfl ?_
      refine go_iconst 1 42 rfl (by decide) ?_
      refine go_iand 43 rfl ?_
      refine go_if_eq 96 44 rfl (by decide) (fun c => ?_) (fun c => ?_)
      · replace h := ite_t c h
        refine go_iinc 1 54 rfl 7 rfl (by decide) (Nat.le_of_ble_eq_true rfl) [(0, _), (1, _), (2, _), (3, _), (4, _), (5, _), (6, _), (7, _)] rfl ?_
        refine go_goto 58 55 rfl (by decide) ?_
        cases h
        have g9 := ih _ hc
        exact g9
      · replace h := ite_f c h
        refine go_aload_n 45 rfl 0 rfl rfl ?_
        refine go_aload_n 46 rfl 1 rfl rfl ?_
        refine go_aload_n 47 rfl 2 rfl rfl ?_
        refine go_iload 48 rfl 6 rfl ?_
        refine go_iload 49 rfl 7 rfl ?_
        obtain ⟨r2, c, h⟩ := bd_inv h
        refine go_callV1 _ 50 rfl (e_R_spreadMeeting (by omega) (by omega) c) mk_R_spreadMeeting (by first | decide | exact ok0 (by omega) | exact ok1 (by omega) | exact ok2 (by omega) | exact ok7 (by omega)) rfl cv_R_78 rfl ⟨(Nat.le_of_ble_eq_true rfl), (Nat.le_of_ble_eq_true rfl)⟩ (Nat.le_of_ble_eq_true rfl) rfl ?_
        refine go_if_eq 96 51 rfl (by decide) (fun c => ?_) (fun c => ?_)
        · replace h := ite_t c h
          refine go_iinc 1 54 rfl 7 rfl (by decide) (Nat.le_of_ble_eq_true rfl) [(0, _), (1, _), (2, _), (3, _), (4, _), (5, _), (6, _), (7, _)] rfl ?_
          refine go_goto 58 55 rfl (by decide) ?_
          cases h
          have g9 := ih _ hc
          exact g9
        · replace h := ite_f c h
          refine go_iconst 1 52 rfl (by decide) ?_
          refine go_istore 53 rfl (Nat.le_of_ble_eq_true rfl) [(0, _), (1, _), (2, _), (3, _), (4, _), (5, _), (6, _), (7, _)] rfl ?_
          refine go_iinc 1 54 rfl 7 rfl (by decide) (Nat.le_of_ble_eq_true rfl) [(0, _), (1, _), (2, _), (3, _), (4, _), (5, _), (6, _), (7, _)] rfl ?_
          refine go_goto 58 55 rfl (by decide) ?_
          cases h
          have g9 := ih _ hc
          exact g9
set_option maxRecDepth 20000 in
theorem w_R_findMeetings_46 {l : Launch} {post : Option PV → Mm → Prop} (c1 : Nat) (c2 : Nat) (c3 : Int32) (c5 : Int32) (h1 : c1 < 7) (h2 : c2 < 7) {r : Int32 × Int32 × Mm} (kk : Go l X_R_findMeetings post 108 [(0, vr 5 0), (1, vr 0 c1), (2, vr 0 c2), (3, vi c3), (4, vi r.1), (5, vi c5), (6, vi r.2.1)] [] r.2.2) : ∀ (n : Nat) (s : Int32 × Int32 × Mm), lpN (b_R_findMeetings_46 c1 c2) n s = some r → Go l X_R_findMeetings post 46 [(0, vr 5 0), (1, vr 0 c1), (2, vr 0 c2), (3, vi c3), (4, vi s.1), (5, vi c5), (6, vi s.2.1)] [] s.2.2 := by
  intro n
  induction n with
  | zero => intro s hc; exact (lpN_0 hc).elim
  | succ n ih =>
    intro s hc
    obtain ⟨q, h, hc⟩ := lpN_inv hc
    unfold b_R_findMeetings_46 at h
    refine go_iload 27 rfl 6 rfl ?_
    refine go_aload_n 28 rfl 1 rfl rfl ?_
    refine go_getfield 0 _ 29 rfl (by first | decide | exact ok0 (by omega) | exact ok1 (by omega) | exact ok2 (by omega) | exact ok7 (by omega)) rfl fg_R_75 rfl ?_
    refine go_icmp_ge 108 30 rfl (by decide) (fun c => ?_) (fun c => ?_)
    · replace h := ite_t c h
      cases h
      obtain rfl := lpq_r hc
      exact kk
    · replace h := ite_f c h
      refine go_iconst 0 31 rfl (by decide) ?_
      refine go_istore 32 rfl (Nat.le_of_ble_eq_true rfl) [(0, _), (1, _), (2, _), (3, _), (4, _), (5, _), (6, _), (7, _)] rfl ?_
      obtain ⟨r3, c, h⟩ := bd_inv h
      refine w_R_findMeetings_58 _ _ _ _ _ (by omega) (by omega) ?_ _ _ c
      refine go_iinc 1 56 rfl 6 rfl (by decide) (Nat.le_of_ble_eq_true rfl) [(0, _), (1, _), (2, _), (3, _), (4, _), (5, _), (6, _), (7, _)] rfl ?_
      refine go_goto 46 57 rfl (by decide) ?_
      cases h
      refine go_sub [0, 1, 2, 3, 4, 5, 6] rfl ?_
      have g9 := ih _ hc
      exact g9
set_option maxRecDepth 20000 in
theorem w_R_findMeetings_28 {l : Launch} {post : Option PV → Mm → Prop} (c1 : Nat) (c2 : Nat) (c3 : Int32) (h1 : c1 < 7) (h2 : c2 < 7) {r : Int32 × Int32 × Mm} (kk : Go l X_R_findMeetings post 114 [(0, vr 5 0), (1, vr 0 c1), (2, vr 0 c2), (3, vi c3), (4, vi r.1), (5, vi r.2.1)] [] r.2.2) : ∀ (n : Nat) (s : Int32 × Int32 × Mm), lpN (b_R_findMeetings_28 c1 c2) n s = some r → Go l X_R_findMeetings post 28 [(0, vr 5 0), (1, vr 0 c1), (2, vr 0 c2), (3, vi c3), (4, vi s.1), (5, vi s.2.1)] [] s.2.2 := by
  intro n
  induction n with
  | zero => intro s hc; exact (lpN_0 hc).elim
  | succ n ih =>
    intro s hc
    obtain ⟨q, h, hc⟩ := lpN_inv hc
    unfold b_R_findMeetings_28 at h
    refine go_iload 18 rfl 5 rfl ?_
    refine go_bipush 32 19 rfl (by decide) ?_
    refine go_icmp_ge 114 20 rfl (by decide) (fun c => ?_) (fun c => ?_)
    · replace h := ite_t c h
      cases h
      obtain rfl := lpq_r hc
      exact kk
    · replace h := ite_f c h
      refine go_iload 21 rfl 4 rfl ?_
      refine go_if_eq 114 22 rfl (by decide) (fun c => ?_) (fun c => ?_)
      · replace h := ite_t c h
        cases h
        obtain rfl := lpq_r hc
        exact kk
      · replace h := ite_f c h
        refine go_iconst 0 23 rfl (by decide) ?_
        refine go_istore 24 rfl (Nat.le_of_ble_eq_true rfl) [(0, _), (1, _), (2, _), (3, _), (4, _), (5, _)] rfl ?_
        refine go_iconst 0 25 rfl (by decide) ?_
        refine go_istore 26 rfl (Nat.le_of_ble_eq_true rfl) [(0, _), (1, _), (2, _), (3, _), (4, _), (5, _), (6, _)] rfl ?_
        obtain ⟨r4, c, h⟩ := bd_inv h
        refine w_R_findMeetings_46 _ _ _ _ (by omega) (by omega) ?_ _ _ c
        refine go_iinc 1 58 rfl 5 rfl (by decide) (Nat.le_of_ble_eq_true rfl) [(0, _), (1, _), (2, _), (3, _), (4, _), (5, _), (6, _)] rfl ?_
        refine go_goto 28 59 rfl (by decide) ?_
        cases h
        refine go_sub [0, 1, 2, 3, 4, 5] rfl ?_
        have g9 := ih _ hc
        exact g9
set_option maxRecDepth 20000 in
theorem e_R_findMeetings {l : Launch} {a1 : Nat} {a2 : Nat} {M : Mm} {r : Mm} (h1 : a1 < 7) (h2 : a2 < 7) (h : m_R_findMeetings a1 a2 M = some r) : Ev l X_R_findMeetings [vr 5 0, vr 0 a1, vr 0 a2] M (fun v M2 => v = none ∧ M2 = r) := by
  refine Ev.of mk_R_findMeetings [(0, vr 5 0), (1, vr 0 a1), (2, vr 0 a2)] (fun _ => rfl) (fun _ => (Nat.le_of_ble_eq_true rfl)) ?_
  unfold m_R_findMeetings at h
  refine go_aload_n 0 rfl 2 rfl rfl ?_
  refine go_getfield 0 _ 1 rfl (by first | decide | exact ok0 (by omega) | exact ok1 (by omega) | exact ok2 (by omega) | exact ok7 (by omega)) rfl fg_R_75 rfl ?_
  refine go_if_le 11 2 rfl (by decide) (fun c => ?_) (fun c => ?_)
  · replace h := ite_t c h
    refine go_iconst 0 5 rfl (by decide) ?_
    refine go_istore_n 6 rfl rfl (Nat.le_of_ble_eq_true rfl) [(0, _), (1, _), (2, _), (3, _)] rfl ?_
    refine go_aload_n 7 rfl 0 rfl rfl ?_
    refine go_getfield 6 _ 8 rfl (by first | decide | exact ok0 (by omega) | exact ok1 (by omega) | exact ok2 (by omega) | exact ok7 (by omega)) rfl fg_R_31 rfl ?_
    refine go_iconst 0 9 rfl (by decide) ?_
    refine go_iconst 1 10 rfl (by decide) ?_
    refine go_iload_n 11 rfl 3 rfl rfl ?_
    refine go_ishl 12 rfl ?_
    obtain ⟨c, h⟩ := ck_inv h
    refine go_iastore 13 rfl (by first | decide | exact ok0 (by omega) | exact ok1 (by omega) | exact ok2 (by omega) | exact ok7 (by omega)) (inb_vp c) ?_
    obtain ⟨_, c, h⟩ := bd_inv h
    cases c
    refine go_iconst 1 14 rfl (by decide) ?_
    refine go_istore 15 rfl (Nat.le_of_ble_eq_true rfl) [(0, _), (1, _), (2, _), (3, _), (4, _)] rfl ?_
    refine go_iconst 0 16 rfl (by decide) ?_
    refine go_istore 17 rfl (Nat.le_of_ble_eq_true rfl) [(0, _), (1, _), (2, _), (3, _), (4, _), (5, _)] rfl ?_
    obtain ⟨r5, c, h⟩ := bd_inv h
    refine w_R_findMeetings_28 _ _ _ (by omega) (by omega) ?_ _ _ c
    cases h
    exact go_return 60 rfl rfl ⟨rfl, rfl⟩
  · replace h := ite_f c h
    refine go_iconst 1 3 rfl (by decide) ?_
    refine go_goto 12 4 rfl (by decide) ?_
    refine go_istore_n 6 rfl rfl (Nat.le_of_ble_eq_true rfl) [(0, _), (1, _), (2, _), (3, _)] rfl ?_
    refine go_aload_n 7 rfl 0 rfl rfl ?_
    refine go_getfield 6 _ 8 rfl (by first | decide | exact ok0 (by omega) | exact ok1 (by omega) | exact ok2 (by omega) | exact ok7 (by omega)) rfl fg_R_31 rfl ?_
    refine go_iconst 0 9 rfl (by decide) ?_
    refine go_iconst 1 10 rfl (by decide) ?_
    refine go_iload_n 11 rfl 3 rfl rfl ?_
    refine go_ishl 12 rfl ?_
    obtain ⟨c, h⟩ := ck_inv h
    refine go_iastore 13 rfl (by first | decide | exact ok0 (by omega) | exact ok1 (by omega) | exact ok2 (by omega) | exact ok7 (by omega)) (inb_vp c) ?_
    obtain ⟨_, c, h⟩ := bd_inv h
    cases c
    refine go_iconst 1 14 rfl (by decide) ?_
    refine go_istore 15 rfl (Nat.le_of_ble_eq_true rfl) [(0, _), (1, _), (2, _), (3, _), (4, _)] rfl ?_
    refine go_iconst 0 16 rfl (by decide) ?_
    refine go_istore 17 rfl (Nat.le_of_ble_eq_true rfl) [(0, _), (1, _), (2, _), (3, _), (4, _), (5, _)] rfl ?_
    obtain ⟨r7, c, h⟩ := bd_inv h
    refine w_R_findMeetings_28 _ _ _ (by omega) (by omega) ?_ _ _ c
    cases h
    exact go_return 60 rfl rfl ⟨rfl, rfl⟩
def X_R_slotOf : MX := (⟨"OmegaDesk$Refuter", "slotOf", "(I)I"⟩, prog_5_method_7_code, 4, some .int, { frames := 0, cells := 0, slots := 0, locals := 0 },
  [(0, .iload_n 1, 1), (1, .ldc 92, 3), (3, .imul, 4), (4, .bipush 22, 6), (6, .iushr, 7), (7, .istore_n 2, 8), (8, .iconst 0, 9), (9, .istore_n 3, 10), (10, .iload_n 3, 11), (11, .sipush 1024, 14), (14, .if_icmp .ge 49, 17), (17, .aload_n 0, 18), (18, .getfield 11, 21), (21, .iload_n 2, 22), (22, .iaload, 23), (23, .ifCond .ne 12, 26), (26, .aload_n 0, 27), (27, .getfield 11, 30), (30, .iload_n 2, 31), (31, .iload_n 1, 32), (32, .iconst 1, 33), (33, .iadd, 34), (34, .iastore, 35), (35, .aload_n 0, 36), (36, .getfield 11, 39), (39, .iload_n 2, 40), (40, .iaload, 41), (41, .iload_n 1, 42), (42, .iconst 1, 43), (43, .iadd, 44), (44, .if_icmp .ne 5, 47), (47, .iload_n 2, 48), (48, .ireturn, 49), (49, .iload_n 2, 50), (50, .iconst 1, 51), (51, .iadd, 52), (52, .sipush 1023, 55), (55, .iand, 56), (56, .istore_n 2, 57), (57, .iinc 3 1, 60), (60, .goto (-50), 63), (63, .iconst (-1), 64), (64, .ireturn, 65)])
set_option maxRecDepth 20000 in
theorem mk_R_slotOf : Mk X_R_slotOf := ⟨by unfold TBk; decide +kernel, by decide +kernel, wb_426, ⟨by decide, by decide⟩, rfl, rfl, wb_3⟩
def b_R_slotOf_10 (c1 : Int32) (s : Int32 × Int32 × Mm) : Option ((Int32 × Int32 × Mm) ⊕ ((Int32 × Int32 × Mm) ⊕ (Int32 × Mm))) :=
  if (1024 : Int32) ≤ s.2.1 then
    some (Sum.inr (Sum.inl (s.1, s.2.1, s.2.2)))
  else
    ck (inb s.1 (lenI 7)) <|
    if (s.2.2.1 (1, 7) s.1.toNatClampNeg) = 0 then
      ck (inb s.1 (lenI 7)) <|
      bd (some (uI s.2.2 (1, 7) s.1.toNatClampNeg (c1 + (1 : Int32)))) fun M2 =>
      ck (inb s.1 (lenI 7)) <|
      if (M2.1 (1, 7) s.1.toNatClampNeg) = (c1 + (1 : Int32)) then
        some (Sum.inr (Sum.inr (s.1, M2)))
      else
        some (Sum.inl (((s.1 + (1 : Int32)) &&& (1023 : Int32)), (s.2.1 + 1), M2))
    else
      ck (inb s.1 (lenI 7)) <|
      if (s.2.2.1 (1, 7) s.1.toNatClampNeg) = (c1 + (1 : Int32)) then
        some (Sum.inr (Sum.inr (s.1, s.2.2)))
      else
        some (Sum.inl (((s.1 + (1 : Int32)) &&& (1023 : Int32)), (s.2.1 + 1), s.2.2))
def m_R_slotOf (a1 : Int32) (M : Mm) : Option (Int32 × Mm) :=
  bd (some (((a1 * (-1640531535 : Int32)).toUInt32 >>> ((22 : Int32).toUInt32 &&& Int32.toUInt32 31)).toInt32)) fun x1 =>
  bd (lp (b_R_slotOf_10 a1) (x1, (0 : Int32), M)) fun r3 =>
  smr r3 (fun v5 => some v5) fun s4 =>
  some ((-1 : Int32), s4.2.2)
set_option maxRecDepth 20000 in
theorem w_R_slotOf_10 {l : Launch} {post : Option PV → Mm → Prop} (c1 : Int32)  {r : (Int32 × Int32 × Mm) ⊕ (Int32 × Mm)} (kk : ∀ s2, r = Sum.inl s2 → Go l X_R_slotOf post 63 [(0, vr 5 0), (1, vi c1), (2, vi s2.1), (3, vi s2.2.1)] [] s2.2.2) (kr : ∀ v, r = Sum.inr v → post (some (vi v.1)) v.2) : ∀ (n : Nat) (s : Int32 × Int32 × Mm), lpN (b_R_slotOf_10 c1) n s = some r → Go l X_R_slotOf post 10 [(0, vr 5 0), (1, vi c1), (2, vi s.1), (3, vi s.2.1)] [] s.2.2 := by
  intro n
  induction n with
  | zero => intro s hc; exact (lpN_0 hc).elim
  | succ n ih =>
    intro s hc
    obtain ⟨q, h, hc⟩ := lpN_inv hc
    unfold b_R_slotOf_10 at h
    refine go_iload_n 8 rfl 3 rfl rfl ?_
    refine go_sipush 1024 9 rfl (by decide) ?_
    refine go_icmp_ge 63 10 rfl (by decide) (fun c => ?_) (fun c => ?_)
    · replace h := ite_t c h
      cases h
      obtain rfl := lpq_r hc
      exact kk _ rfl
    · replace h := ite_f c h
      refine go_aload_n 11 rfl 0 rfl rfl ?_
      refine go_getfield 0 _ 12 rfl (by first | decide | exact ok0 (by omega) | exact ok1 (by omega) | exact ok2 (by omega) | exact ok7 (by omega)) rfl fg_R_11 rfl ?_
      refine go_iload_n 13 rfl 2 rfl rfl ?_
      obtain ⟨c, h⟩ := ck_inv h
      refine go_iaload 14 rfl (by first | decide | exact ok0 (by omega) | exact ok1 (by omega) | exact ok2 (by omega) | exact ok7 (by omega)) (inb_vp c) ?_
      refine go_if_ne 35 15 rfl (by decide) (fun c => ?_) (fun c => ?_)
      · replace h := ite_f c h
        refine go_aload_n 23 rfl 0 rfl rfl ?_
        refine go_getfield 0 _ 24 rfl (by first | decide | exact ok0 (by omega) | exact ok1 (by omega) | exact ok2 (by omega) | exact ok7 (by omega)) rfl fg_R_11 rfl ?_
        refine go_iload_n 25 rfl 2 rfl rfl ?_
        obtain ⟨c, h⟩ := ck_inv h
        refine go_iaload 26 rfl (by first | decide | exact ok0 (by omega) | exact ok1 (by omega) | exact ok2 (by omega) | exact ok7 (by omega)) (inb_vp c) ?_
        refine go_iload_n 27 rfl 1 rfl rfl ?_
        refine go_iconst 1 28 rfl (by decide) ?_
        refine go_iadd 29 rfl ?_
        refine go_icmp_ne 49 30 rfl (by decide) (fun c => ?_) (fun c => ?_)
        · replace h := ite_f c h
          refine go_iload_n 33 rfl 2 rfl rfl ?_
          refine go_iconst 1 34 rfl (by decide) ?_
          refine go_iadd 35 rfl ?_
          refine go_sipush 1023 36 rfl (by decide) ?_
          refine go_iand 37 rfl ?_
          refine go_istore_n 38 rfl rfl (Nat.le_of_ble_eq_true rfl) [(0, _), (1, _), (2, _), (3, _)] rfl ?_
          refine go_iinc 1 39 rfl 3 rfl (by decide) (Nat.le_of_ble_eq_true rfl) [(0, _), (1, _), (2, _), (3, _)] rfl ?_
          refine go_goto 10 40 rfl (by decide) ?_
          cases h
          have g9 := ih _ hc
          exact g9
        · replace h := ite_t c h
          refine go_iload_n 31 rfl 2 rfl rfl ?_
          cases h
          obtain rfl := lpq_r hc
          exact go_ireturn 32 rfl rfl rfl (kr _ rfl)
      · replace h := ite_t c h
        refine go_aload_n 16 rfl 0 rfl rfl ?_
        refine go_getfield 0 _ 17 rfl (by first | decide | exact ok0 (by omega) | exact ok1 (by omega) | exact ok2 (by omega) | exact ok7 (by omega)) rfl fg_R_11 rfl ?_
        refine go_iload_n 18 rfl 2 rfl rfl ?_
        refine go_iload_n 19 rfl 1 rfl rfl ?_
        refine go_iconst 1 20 rfl (by decide) ?_
        refine go_iadd 21 rfl ?_
        obtain ⟨c, h⟩ := ck_inv h
        refine go_iastore 22 rfl (by first | decide | exact ok0 (by omega) | exact ok1 (by omega) | exact ok2 (by omega) | exact ok7 (by omega)) (inb_vp c) ?_
        obtain ⟨_, c, h⟩ := bd_inv h
        cases c
        refine go_aload_n 23 rfl 0 rfl rfl ?_
        refine go_getfield 0 _ 24 rfl (by first | decide | exact ok0 (by omega) | exact ok1 (by omega) | exact ok2 (by omega) | exact ok7 (by omega)) rfl fg_R_11 rfl ?_
        refine go_iload_n 25 rfl 2 rfl rfl ?_
        obtain ⟨c, h⟩ := ck_inv h
        refine go_iaload 26 rfl (by first | decide | exact ok0 (by omega) | exact ok1 (by omega) | exact ok2 (by omega) | exact ok7 (by omega)) (inb_vp c) ?_
        refine go_iload_n 27 rfl 1 rfl rfl ?_
        refine go_iconst 1 28 rfl (by decide) ?_
        refine go_iadd 29 rfl ?_
        refine go_icmp_ne 49 30 rfl (by decide) (fun c => ?_) (fun c => ?_)
        · replace h := ite_f c h
          refine go_iload_n 33 rfl 2 rfl rfl ?_
          refine go_iconst 1 34 rfl (by decide) ?_
          refine go_iadd 35 rfl ?_
          refine go_sipush 1023 36 rfl (by decide) ?_
          refine go_iand 37 rfl ?_
          refine go_istore_n 38 rfl rfl (Nat.le_of_ble_eq_true rfl) [(0, _), (1, _), (2, _), (3, _)] rfl ?_
          refine go_iinc 1 39 rfl 3 rfl (by decide) (Nat.le_of_ble_eq_true rfl) [(0, _), (1, _), (2, _), (3, _)] rfl ?_
          refine go_goto 10 40 rfl (by decide) ?_
          cases h
          have g9 := ih _ hc
          exact g9
        · replace h := ite_t c h
          refine go_iload_n 31 rfl 2 rfl rfl ?_
          cases h
          obtain rfl := lpq_r hc
          exact go_ireturn 32 rfl rfl rfl (kr _ rfl)
set_option maxRecDepth 20000 in
theorem e_R_slotOf {l : Launch} {a1 : Int32} {M : Mm} {r : Int32 × Mm}  (h : m_R_slotOf a1 M = some r) : Ev l X_R_slotOf [vr 5 0, vi a1] M (fun v M2 => v = (some (vi r.1)) ∧ M2 = r.2) := by
  refine Ev.of mk_R_slotOf [(0, vr 5 0), (1, vi a1)] (fun _ => rfl) (fun _ => (Nat.le_of_ble_eq_true rfl)) ?_
  unfold m_R_slotOf at h
  refine go_iload_n 0 rfl 1 rfl rfl ?_
  refine go_ldc (-1640531535) 1 rfl wb_427 ?_
  refine go_imul 2 rfl ?_
  refine go_bipush 22 3 rfl (by decide) ?_
  refine go_iushr 4 rfl ?_
  obtain ⟨_, c, h⟩ := bd_inv h
  cases c
  refine go_istore_n 5 rfl rfl (Nat.le_of_ble_eq_true rfl) [(0, _), (1, _), (2, _)] rfl ?_
  refine go_iconst 0 6 rfl (by decide) ?_
  refine go_istore_n 7 rfl rfl (Nat.le_of_ble_eq_true rfl) [(0, _), (1, _), (2, _), (3, _)] rfl ?_
  obtain ⟨r3, c, h⟩ := bd_inv h
  refine w_R_slotOf_10 _ (fun s2 e => ?_) (fun v e => ?_) _ _ c
  · subst e
    replace h := smr_l h
    refine go_iconst (-1) 41 rfl (by decide) ?_
    cases h
    exact go_ireturn 42 rfl rfl rfl ⟨rfl, rfl⟩
  · subst e
    replace h := smr_r h
    cases h
    exact ⟨rfl, rfl⟩
def X_R_enqueue : MX := (⟨"OmegaDesk$Refuter", "enqueue", "(I)V"⟩, prog_5_method_8_code, 2, none, { frames := 0, cells := 0, slots := 0, locals := 0 },
  [(0, .aload_n 0, 1), (1, .getfield 21, 4), (4, .aload_n 0, 5), (5, .getfield 24, 8), (8, .aload_n 0, 9), (9, .getfield 28, 12), (12, .iadd, 13), (13, .sipush 1023, 16), (16, .iand, 17), (17, .iload_n 1, 18), (18, .iastore, 19), (19, .aload_n 0, 20), (20, .dup, 21), (21, .getfield 28, 24), (24, .iconst 1, 25), (25, .iadd, 26), (26, .putfield 28, 29), (29, .return_, 30)])
set_option maxRecDepth 20000 in
theorem mk_R_enqueue : Mk X_R_enqueue := ⟨by unfold TBk; decide +kernel, by decide +kernel, wb_431, ⟨by decide, by decide⟩, rfl, rfl, wb_3⟩
theorem fg_R_21 : FG "OmegaDesk$Refuter" 21 5 3 := ⟨R_R, F_R, 7, rfl, by decide, uw_R, Or.inl wb_56⟩
theorem fg_R_24 : FG "OmegaDesk$Refuter" 24 5 4 := ⟨R_R, F_R, 7, rfl, by decide, uw_R, Or.inl wb_57⟩
theorem fg_R_28 : FG "OmegaDesk$Refuter" 28 5 5 := ⟨R_R, F_R, 7, rfl, by decide, uw_R, Or.inl wb_58⟩
def m_R_enqueue (a1 : Int32) (M : Mm) : Option (Mm) :=
  ck (inb (((M.1 (5, 0) 4) + (M.1 (5, 0) 5)) &&& (1023 : Int32)) (lenI 10)) <|
  bd (some (uI M (1, 10) (((M.1 (5, 0) 4) + (M.1 (5, 0) 5)) &&& (1023 : Int32)).toNatClampNeg a1)) fun M1 =>
  bd (some (uI M1 (5, 0) 5 ((M1.1 (5, 0) 5) + (1 : Int32)))) fun M2 =>
  some M2
set_option maxRecDepth 20000 in
theorem e_R_enqueue {l : Launch} {a1 : Int32} {M : Mm} {r : Mm}  (h : m_R_enqueue a1 M = some r) : Ev l X_R_enqueue [vr 5 0, vi a1] M (fun v M2 => v = none ∧ M2 = r) := by
  refine Ev.of mk_R_enqueue [(0, vr 5 0), (1, vi a1)] (fun _ => rfl) (fun _ => (Nat.le_of_ble_eq_true rfl)) ?_
  unfold m_R_enqueue at h
  refine go_aload_n 0 rfl 0 rfl rfl ?_
  refine go_getfield 3 _ 1 rfl (by first | decide | exact ok0 (by omega) | exact ok1 (by omega) | exact ok2 (by omega) | exact ok7 (by omega)) rfl fg_R_21 rfl ?_
  refine go_aload_n 2 rfl 0 rfl rfl ?_
  refine go_getfield 4 _ 3 rfl (by first | decide | exact ok0 (by omega) | exact ok1 (by omega) | exact ok2 (by omega) | exact ok7 (by omega)) rfl fg_R_24 rfl ?_
  refine go_aload_n 4 rfl 0 rfl rfl ?_
  refine go_getfield 5 _ 5 rfl (by first | decide | exact ok0 (by omega) | exact ok1 (by omega) | exact ok2 (by omega) | exact ok7 (by omega)) rfl fg_R_28 rfl ?_
  refine go_iadd 6 rfl ?_
  refine go_sipush 1023 7 rfl (by decide) ?_
  refine go_iand 8 rfl ?_
  refine go_iload_n 9 rfl 1 rfl rfl ?_
  obtain ⟨c, h⟩ := ck_inv h
  refine go_iastore 10 rfl (by first | decide | exact ok0 (by omega) | exact ok1 (by omega) | exact ok2 (by omega) | exact ok7 (by omega)) (inb_vp c) ?_
  obtain ⟨_, c, h⟩ := bd_inv h
  cases c
  refine go_aload_n 11 rfl 0 rfl rfl ?_
  refine go_dup 12 rfl rfl ?_
  refine go_getfield 5 _ 13 rfl (by first | decide | exact ok0 (by omega) | exact ok1 (by omega) | exact ok2 (by omega) | exact ok7 (by omega)) rfl fg_R_28 rfl ?_
  refine go_iconst 1 14 rfl (by decide) ?_
  refine go_iadd 15 rfl ?_
  refine go_putfield 5 .int 16 rfl (by first | decide | exact ok0 (by omega) | exact ok1 (by omega) | exact ok2 (by omega) | exact ok7 (by omega)) rfl fp_R_28 rfl rfl (Nat.le_of_ble_eq_true rfl) rfl ?_
  obtain ⟨_, c, h⟩ := bd_inv h
  cases c
  cases h
  exact go_return 17 rfl rfl ⟨rfl, rfl⟩
def X_R_offer : MX := (⟨"OmegaDesk$Refuter", "offer", "(II)I"⟩, prog_5_method_6_code, 5, some .int, { frames := 1, cells := 0, slots := 0, locals := 23 },
  [(0, .aload_n 0, 1), (1, .iload_n 1, 2), (2, .invokevirtual 85, 5), (5, .istore_n 3, 6), (6, .iload_n 3, 7), (7, .ifCond .ge 5, 10), (10, .iconst 0, 11), (11, .ireturn, 12), (12, .iload_n 2, 13), (13, .aload_n 0, 14), (14, .getfield 15, 17), (17, .iload_n 3, 18), (18, .iaload, 19), (19, .iconst (-1), 20), (20, .ixor, 21), (21, .iand, 22), (22, .istore 4, 24), (24, .iload 4, 26), (26, .ifCond .eq 39, 29), (29, .aload_n 0, 30), (30, .getfield 15, 33), (33, .iload_n 3, 34), (34, .dup2, 35), (35, .iaload, 36), (36, .iload 4, 38), (38, .ior, 39), (39, .iastore, 40), (40, .aload_n 0, 41), (41, .getfield 18, 44), (44, .iload_n 3, 45), (45, .iaload, 46), (46, .ifCond .ne 8, 49), (49, .aload_n 0, 50), (50, .iload_n 3, 51), (51, .invokevirtual 88, 54), (54, .aload_n 0, 55), (55, .getfield 18, 58), (58, .iload_n 3, 59), (59, .dup2, 60), (60, .iaload, 61), (61, .iload 4, 63), (63, .ior, 64), (64, .iastore, 65), (65, .iload 4, 67), (67, .ireturn, 68)])
set_option maxRecDepth 20000 in
theorem mk_R_offer : Mk X_R_offer := ⟨by unfold TBk; decide +kernel, by decide +kernel, wb_422, ⟨by decide, by decide⟩, rfl, rfl, wb_3⟩
theorem cv_R_85 : CV "OmegaDesk$Refuter" 85 X_R_slotOf 1 5 := ⟨Or.inl wb_423, ⟨wb_425, ws_R_slotOf⟩, by decide +kernel, F_R, 7, rfl⟩
theorem cv_R_88 : CV "OmegaDesk$Refuter" 88 X_R_enqueue 1 5 := ⟨Or.inl wb_428, ⟨wb_430, ws_R_enqueue⟩, by decide +kernel, F_R, 7, rfl⟩
def m_R_offer (a1 : Int32) (a2 : Int32) (M : Mm) : Option (Int32 × Mm) :=
  bd (m_R_slotOf a1 M) fun r1 =>
  if 0 ≤ r1.1 then
    ck (inb r1.1 (lenI 8)) <|
    bd (some (a2 &&& ((r1.2.1 (1, 8) r1.1.toNatClampNeg) ^^^ (-1 : Int32)))) fun x2 =>
    if x2 = 0 then
      some (x2, r1.2)
    else
      ck (inb r1.1 (lenI 8)) <|
      ck (inb r1.1 (lenI 8)) <|
      bd (some (uI r1.2 (1, 8) r1.1.toNatClampNeg ((r1.2.1 (1, 8) r1.1.toNatClampNeg) ||| x2))) fun M3 =>
      ck (inb r1.1 (lenI 9)) <|
      if (M3.1 (1, 9) r1.1.toNatClampNeg) = 0 then
        bd (m_R_enqueue r1.1 M3) fun r5 =>
        ck (inb r1.1 (lenI 9)) <|
        ck (inb r1.1 (lenI 9)) <|
        bd (some (uI r5 (1, 9) r1.1.toNatClampNeg ((r5.1 (1, 9) r1.1.toNatClampNeg) ||| x2))) fun M6 =>
        some (x2, M6)
      else
        ck (inb r1.1 (lenI 9)) <|
        ck (inb r1.1 (lenI 9)) <|
        bd (some (uI M3 (1, 9) r1.1.toNatClampNeg ((M3.1 (1, 9) r1.1.toNatClampNeg) ||| x2))) fun M4 =>
        some (x2, M4)
  else
    some ((0 : Int32), r1.2)
set_option maxRecDepth 20000 in
theorem e_R_offer {l : Launch} {a1 : Int32} {a2 : Int32} {M : Mm} {r : Int32 × Mm}  (h : m_R_offer a1 a2 M = some r) : Ev l X_R_offer [vr 5 0, vi a1, vi a2] M (fun v M2 => v = (some (vi r.1)) ∧ M2 = r.2) := by
  refine Ev.of mk_R_offer [(0, vr 5 0), (1, vi a1), (2, vi a2)] (fun _ => rfl) (fun _ => (Nat.le_of_ble_eq_true rfl)) ?_
  unfold m_R_offer at h
  refine go_aload_n 0 rfl 0 rfl rfl ?_
  refine go_iload_n 1 rfl 1 rfl rfl ?_
  obtain ⟨r1, c, h⟩ := bd_inv h
  refine go_callV1 _ 2 rfl (e_R_slotOf c) mk_R_slotOf (by first | decide | exact ok0 (by omega) | exact ok1 (by omega) | exact ok2 (by omega) | exact ok7 (by omega)) rfl cv_R_85 rfl ⟨(Nat.le_of_ble_eq_true rfl), (Nat.le_of_ble_eq_true rfl)⟩ (Nat.le_of_ble_eq_true rfl) rfl ?_
  refine go_istore_n 3 rfl rfl (Nat.le_of_ble_eq_true rfl) [(0, _), (1, _), (2, _), (3, _)] rfl ?_
  refine go_iload_n 4 rfl 3 rfl rfl ?_
  refine go_if_ge 12 5 rfl (by decide) (fun c => ?_) (fun c => ?_)
  · replace h := ite_t c h
    refine go_iload_n 8 rfl 2 rfl rfl ?_
    refine go_aload_n 9 rfl 0 rfl rfl ?_
    refine go_getfield 1 _ 10 rfl (by first | decide | exact ok0 (by omega) | exact ok1 (by omega) | exact ok2 (by omega) | exact ok7 (by omega)) rfl fg_R_15 rfl ?_
    refine go_iload_n 11 rfl 3 rfl rfl ?_
    obtain ⟨c, h⟩ := ck_inv h
    refine go_iaload 12 rfl (by first | decide | exact ok0 (by omega) | exact ok1 (by omega) | exact ok2 (by omega) | exact ok7 (by omega)) (inb_vp c) ?_
    refine go_iconst (-1) 13 rfl (by decide) ?_
    refine go_ixor 14 rfl ?_
    refine go_iand 15 rfl ?_
    obtain ⟨_, c, h⟩ := bd_inv h
    cases c
    refine go_istore 16 rfl (Nat.le_of_ble_eq_true rfl) [(0, _), (1, _), (2, _), (3, _), (4, _)] rfl ?_
    refine go_iload 17 rfl 4 rfl ?_
    refine go_if_eq 65 18 rfl (by decide) (fun c => ?_) (fun c => ?_)
    · replace h := ite_t c h
      refine go_iload 43 rfl 4 rfl ?_
      cases h
      exact go_ireturn 44 rfl rfl rfl ⟨rfl, rfl⟩
    · replace h := ite_f c h
      refine go_aload_n 19 rfl 0 rfl rfl ?_
      refine go_getfield 1 _ 20 rfl (by first | decide | exact ok0 (by omega) | exact ok1 (by omega) | exact ok2 (by omega) | exact ok7 (by omega)) rfl fg_R_15 rfl ?_
      refine go_iload_n 21 rfl 3 rfl rfl ?_
      refine go_dup2 22 rfl rfl rfl ?_
      obtain ⟨c, h⟩ := ck_inv h
      refine go_iaload 23 rfl (by first | decide | exact ok0 (by omega) | exact ok1 (by omega) | exact ok2 (by omega) | exact ok7 (by omega)) (inb_vp c) ?_
      refine go_iload 24 rfl 4 rfl ?_
      refine go_ior 25 rfl ?_
      obtain ⟨c, h⟩ := ck_inv h
      refine go_iastore 26 rfl (by first | decide | exact ok0 (by omega) | exact ok1 (by omega) | exact ok2 (by omega) | exact ok7 (by omega)) (inb_vp c) ?_
      obtain ⟨_, c, h⟩ := bd_inv h
      cases c
      refine go_aload_n 27 rfl 0 rfl rfl ?_
      refine go_getfield 2 _ 28 rfl (by first | decide | exact ok0 (by omega) | exact ok1 (by omega) | exact ok2 (by omega) | exact ok7 (by omega)) rfl fg_R_18 rfl ?_
      refine go_iload_n 29 rfl 3 rfl rfl ?_
      obtain ⟨c, h⟩ := ck_inv h
      refine go_iaload 30 rfl (by first | decide | exact ok0 (by omega) | exact ok1 (by omega) | exact ok2 (by omega) | exact ok7 (by omega)) (inb_vp c) ?_
      refine go_if_ne 54 31 rfl (by decide) (fun c => ?_) (fun c => ?_)
      · replace h := ite_f c h
        refine go_aload_n 35 rfl 0 rfl rfl ?_
        refine go_getfield 2 _ 36 rfl (by first | decide | exact ok0 (by omega) | exact ok1 (by omega) | exact ok2 (by omega) | exact ok7 (by omega)) rfl fg_R_18 rfl ?_
        refine go_iload_n 37 rfl 3 rfl rfl ?_
        refine go_dup2 38 rfl rfl rfl ?_
        obtain ⟨c, h⟩ := ck_inv h
        refine go_iaload 39 rfl (by first | decide | exact ok0 (by omega) | exact ok1 (by omega) | exact ok2 (by omega) | exact ok7 (by omega)) (inb_vp c) ?_
        refine go_iload 40 rfl 4 rfl ?_
        refine go_ior 41 rfl ?_
        obtain ⟨c, h⟩ := ck_inv h
        refine go_iastore 42 rfl (by first | decide | exact ok0 (by omega) | exact ok1 (by omega) | exact ok2 (by omega) | exact ok7 (by omega)) (inb_vp c) ?_
        obtain ⟨_, c, h⟩ := bd_inv h
        cases c
        refine go_iload 43 rfl 4 rfl ?_
        cases h
        exact go_ireturn 44 rfl rfl rfl ⟨rfl, rfl⟩
      · replace h := ite_t c h
        refine go_aload_n 32 rfl 0 rfl rfl ?_
        refine go_iload_n 33 rfl 3 rfl rfl ?_
        obtain ⟨r5, c, h⟩ := bd_inv h
        refine go_callV1 _ 34 rfl (e_R_enqueue c) mk_R_enqueue (by first | decide | exact ok0 (by omega) | exact ok1 (by omega) | exact ok2 (by omega) | exact ok7 (by omega)) rfl cv_R_88 rfl ⟨(Nat.le_of_ble_eq_true rfl), (Nat.le_of_ble_eq_true rfl)⟩ (Nat.le_of_ble_eq_true rfl) rfl ?_
        refine go_aload_n 35 rfl 0 rfl rfl ?_
        refine go_getfield 2 _ 36 rfl (by first | decide | exact ok0 (by omega) | exact ok1 (by omega) | exact ok2 (by omega) | exact ok7 (by omega)) rfl fg_R_18 rfl ?_
        refine go_iload_n 37 rfl 3 rfl rfl ?_
        refine go_dup2 38 rfl rfl rfl ?_
        obtain ⟨c, h⟩ := ck_inv h
        refine go_iaload 39 rfl (by first | decide | exact ok0 (by omega) | exact ok1 (by omega) | exact ok2 (by omega) | exact ok7 (by omega)) (inb_vp c) ?_
        refine go_iload 40 rfl 4 rfl ?_
        refine go_ior 41 rfl ?_
        obtain ⟨c, h⟩ := ck_inv h
        refine go_iastore 42 rfl (by first | decide | exact ok0 (by omega) | exact ok1 (by omega) | exact ok2 (by omega) | exact ok7 (by omega)) (inb_vp c) ?_
        obtain ⟨_, c, h⟩ := bd_inv h
        cases c
        refine go_iload 43 rfl 4 rfl ?_
        cases h
        exact go_ireturn 44 rfl rfl rfl ⟨rfl, rfl⟩
  · replace h := ite_f c h
    refine go_iconst 0 6 rfl (by decide) ?_
    cases h
    exact go_ireturn 7 rfl rfl rfl ⟨rfl, rfl⟩
def X_R_nextQueued : MX := (⟨"OmegaDesk$Refuter", "nextQueued", "()I"⟩, prog_5_method_9_code, 2, some .int, { frames := 0, cells := 0, slots := 0, locals := 0 },
  [(0, .aload_n 0, 1), (1, .getfield 21, 4), (4, .aload_n 0, 5), (5, .getfield 24, 8), (8, .iaload, 9), (9, .istore_n 1, 10), (10, .aload_n 0, 11), (11, .aload_n 0, 12), (12, .getfield 24, 15), (15, .iconst 1, 16), (16, .iadd, 17), (17, .sipush 1023, 20), (20, .iand, 21), (21, .putfield 24, 24), (24, .aload_n 0, 25), (25, .dup, 26), (26, .getfield 28, 29), (29, .iconst 1, 30), (30, .isub, 31), (31, .putfield 28, 34), (34, .iload_n 1, 35), (35, .ireturn, 36)])
set_option maxRecDepth 20000 in
theorem mk_R_nextQueued : Mk X_R_nextQueued := ⟨by unfold TBk; decide +kernel, by decide +kernel, wb_436, ⟨by decide, by decide⟩, rfl, rfl, wb_3⟩
def m_R_nextQueued  (M : Mm) : Option (Int32 × Mm) :=
  ck (inb (M.1 (5, 0) 4) (lenI 10)) <|
  bd (some (M.1 (1, 10) (M.1 (5, 0) 4).toNatClampNeg)) fun x1 =>
  bd (some (uI M (5, 0) 4 (((M.1 (5, 0) 4) + (1 : Int32)) &&& (1023 : Int32)))) fun M2 =>
  bd (some (uI M2 (5, 0) 5 ((M2.1 (5, 0) 5) - (1 : Int32)))) fun M3 =>
  some (x1, M3)
set_option maxRecDepth 20000 in
theorem e_R_nextQueued {l : Launch}  {M : Mm} {r : Int32 × Mm}  (h : m_R_nextQueued  M = some r) : Ev l X_R_nextQueued [vr 5 0] M (fun v M2 => v = (some (vi r.1)) ∧ M2 = r.2) := by
  refine Ev.of mk_R_nextQueued [(0, vr 5 0)] (fun _ => rfl) (fun _ => (Nat.le_of_ble_eq_true rfl)) ?_
  unfold m_R_nextQueued at h
  refine go_aload_n 0 rfl 0 rfl rfl ?_
  refine go_getfield 3 _ 1 rfl (by first | decide | exact ok0 (by omega) | exact ok1 (by omega) | exact ok2 (by omega) | exact ok7 (by omega)) rfl fg_R_21 rfl ?_
  refine go_aload_n 2 rfl 0 rfl rfl ?_
  refine go_getfield 4 _ 3 rfl (by first | decide | exact ok0 (by omega) | exact ok1 (by omega) | exact ok2 (by omega) | exact ok7 (by omega)) rfl fg_R_24 rfl ?_
  obtain ⟨c, h⟩ := ck_inv h
  refine go_iaload 4 rfl (by first | decide | exact ok0 (by omega) | exact ok1 (by omega) | exact ok2 (by omega) | exact ok7 (by omega)) (inb_vp c) ?_
  obtain ⟨_, c, h⟩ := bd_inv h
  cases c
  refine go_istore_n 5 rfl rfl (Nat.le_of_ble_eq_true rfl) [(0, _), (1, _)] rfl ?_
  refine go_aload_n 6 rfl 0 rfl rfl ?_
  refine go_aload_n 7 rfl 0 rfl rfl ?_
  refine go_getfield 4 _ 8 rfl (by first | decide | exact ok0 (by omega) | exact ok1 (by omega) | exact ok2 (by omega) | exact ok7 (by omega)) rfl fg_R_24 rfl ?_
  refine go_iconst 1 9 rfl (by decide) ?_
  refine go_iadd 10 rfl ?_
  refine go_sipush 1023 11 rfl (by decide) ?_
  refine go_iand 12 rfl ?_
  refine go_putfield 4 .int 13 rfl (by first | decide | exact ok0 (by omega) | exact ok1 (by omega) | exact ok2 (by omega) | exact ok7 (by omega)) rfl fp_R_24 rfl rfl (Nat.le_of_ble_eq_true rfl) rfl ?_
  obtain ⟨_, c, h⟩ := bd_inv h
  cases c
  refine go_aload_n 14 rfl 0 rfl rfl ?_
  refine go_dup 15 rfl rfl ?_
  refine go_getfield 5 _ 16 rfl (by first | decide | exact ok0 (by omega) | exact ok1 (by omega) | exact ok2 (by omega) | exact ok7 (by omega)) rfl fg_R_28 rfl ?_
  refine go_iconst 1 17 rfl (by decide) ?_
  refine go_isub 18 rfl ?_
  refine go_putfield 5 .int 19 rfl (by first | decide | exact ok0 (by omega) | exact ok1 (by omega) | exact ok2 (by omega) | exact ok7 (by omega)) rfl fp_R_28 rfl rfl (Nat.le_of_ble_eq_true rfl) rfl ?_
  obtain ⟨_, c, h⟩ := bd_inv h
  cases c
  refine go_iload_n 20 rfl 1 rfl rfl ?_
  cases h
  exact go_ireturn 21 rfl rfl rfl ⟨rfl, rfl⟩
def X_R_refutesWith : MX := (⟨"OmegaDesk$Refuter", "refutesWith", "(II)Z"⟩, prog_5_method_10_code, 6, some .boolean, { frames := 3, cells := 0, slots := 0, locals := 68 },
  [(0, .iconst 0, 1), (1, .istore_n 3, 2), (2, .iconst 0, 3), (3, .istore 4, 5), (5, .iload 4, 7), (7, .iconst 4, 8), (8, .if_icmp .ge 33, 11), (11, .iload_n 2, 12), (12, .iload 4, 14), (14, .invokestatic 93, 17), (17, .iload 4, 19), (19, .ishr, 20), (20, .iconst 1, 21), (21, .iand, 22), (22, .ifCond .eq 13, 25), (25, .iload_n 3, 26), (26, .aload_n 0, 27), (27, .getfield 31, 30), (30, .iload 4, 32), (32, .iaload, 33), (33, .ior, 34), (34, .istore_n 3, 35), (35, .iinc 4 1, 38), (38, .goto (-33), 41), (41, .iload_n 3, 42), (42, .ifCond .ne 5, 45), (45, .iconst 0, 46), (46, .ireturn, 47), (47, .iload_n 1, 48), (48, .invokestatic 98, 51), (51, .istore 4, 53), (53, .iconst 0, 54), (54, .istore 5, 56), (56, .iload 5, 58), (58, .bipush 8, 60), (60, .if_icmp .ge 28, 63), (63, .iload_n 3, 64), (64, .iload 5, 66), (66, .ishr, 67), (67, .iconst 1, 68), (68, .iand, 69), (69, .ifCond .eq 13, 72), (72, .iload 5, 74), (74, .iload 4, 76), (76, .iand, 77), (77, .ifCond .ne 5, 80), (80, .iconst 1, 81), (81, .ireturn, 82), (82, .iinc 5 1, 85), (85, .goto (-29), 88), (88, .iconst 0, 89), (89, .ireturn, 90)])
set_option maxRecDepth 20000 in
theorem mk_R_refutesWith : Mk X_R_refutesWith := ⟨by unfold TBk; decide +kernel, by decide +kernel, wb_441, ⟨by decide, by decide⟩, rfl, rfl, wb_3⟩
theorem cs_R_93 : CS "OmegaDesk$Refuter" 93 X_P_goodEnds 2 := ⟨Or.inl wb_442, wb_331, by decide +kernel⟩
theorem cs_R_98 : CS "OmegaDesk$Refuter" 98 X_P_takenRepeated 1 := ⟨Or.inl wb_443, wb_341, by decide +kernel⟩
def b_R_refutesWith_5 (c2 : Int32) (M : Mm) (s : Int32 × Int32) : Option ((Int32 × Int32) ⊕ (Int32 × Int32)) :=
  if (4 : Int32) ≤ s.2 then
    some (Sum.inr (s.1, s.2))
  else
    bd (m_P_goodEnds c2 s.2) fun r1 =>
    if ((r1 >>> (s.2 &&& 31)) &&& (1 : Int32)) = 0 then
      some (Sum.inl (s.1, (s.2 + 1)))
    else
      ck (inb s.2 (lenI 11)) <|
      bd (some (s.1 ||| (M.1 (1, 11) s.2.toNatClampNeg))) fun x2 =>
      some (Sum.inl (x2, (s.2 + 1)))
def b_R_refutesWith_56 (c3 : Int32) (c4 : Int32) (s : Int32) : Option ((Int32) ⊕ ((Int32) ⊕ (Bool))) :=
  if (8 : Int32) ≤ s then
    some (Sum.inr (Sum.inl s))
  else
    if ((c3 >>> (s &&& 31)) &&& (1 : Int32)) = 0 then
      some (Sum.inl (s + 1))
    else
      if (s &&& c4) = 0 then
        some (Sum.inr (Sum.inr true))
      else
        some (Sum.inl (s + 1))
def m_R_refutesWith (a1 : Int32) (a2 : Int32) (M : Mm) : Option (Bool) :=
  bd (lp (b_R_refutesWith_5 a2 M) ((0 : Int32), (0 : Int32))) fun r3 =>
  if r3.1 = 0 then
    some false
  else
    bd (m_P_takenRepeated a1) fun r4 =>
    bd (lp (b_R_refutesWith_56 r3.1 r4) (0 : Int32)) fun r5 =>
    smr r5 (fun v7 => some v7) fun s6 =>
    some false
set_option maxRecDepth 20000 in
theorem w_R_refutesWith_5 {l : Launch} {post : Option PV → Mm → Prop} (c1 : Int32) (c2 : Int32) (M : Mm)  {r : Int32 × Int32} (kk : Go l X_R_refutesWith post 41 [(0, vr 5 0), (1, vi c1), (2, vi c2), (3, vi r.1), (4, vi r.2)] [] M) : ∀ (n : Nat) (s : Int32 × Int32), lpN (b_R_refutesWith_5 c2 M) n s = some r → Go l X_R_refutesWith post 5 [(0, vr 5 0), (1, vi c1), (2, vi c2), (3, vi s.1), (4, vi s.2)] [] M := by
  intro n
  induction n with
  | zero => intro s hc; exact (lpN_0 hc).elim
  | succ n ih =>
    intro s hc
    obtain ⟨q, h, hc⟩ := lpN_inv hc
    unfold b_R_refutesWith_5 at h
    refine go_iload 4 rfl 4 rfl ?_
    refine go_iconst 4 5 rfl (by decide) ?_
    refine go_icmp_ge 41 6 rfl (by decide) (fun c => ?_) (fun c => ?_)
    · replace h := ite_t c h
      cases h
      obtain rfl := lpq_r hc
      exact kk
    · replace h := ite_f c h
      refine go_iload_n 7 rfl 2 rfl rfl ?_
      refine go_iload 8 rfl 4 rfl ?_
      obtain ⟨r1, c, h⟩ := bd_inv h
      refine go_callS1 _ 9 rfl (e_P_goodEnds c) mk_P_goodEnds cs_R_93 rfl ⟨(Nat.le_of_ble_eq_true rfl), (Nat.le_of_ble_eq_true rfl)⟩ (Nat.le_of_ble_eq_true rfl) rfl ?_
      refine go_iload 10 rfl 4 rfl ?_
      refine go_ishr 11 rfl ?_
      refine go_iconst 1 12 rfl (by decide) ?_
      refine go_iand 13 rfl ?_
      refine go_if_eq 35 14 rfl (by decide) (fun c => ?_) (fun c => ?_)
      · replace h := ite_t c h
        refine go_iinc 1 22 rfl 4 rfl (by decide) (Nat.le_of_ble_eq_true rfl) [(0, _), (1, _), (2, _), (3, _), (4, _)] rfl ?_
        refine go_goto 5 23 rfl (by decide) ?_
        cases h
        have g9 := ih _ hc
        exact g9
      · replace h := ite_f c h
        refine go_iload_n 15 rfl 3 rfl rfl ?_
        refine go_aload_n 16 rfl 0 rfl rfl ?_
        refine go_getfield 6 _ 17 rfl (by first | decide | exact ok0 (by omega) | exact ok1 (by omega) | exact ok2 (by omega) | exact ok7 (by omega)) rfl fg_R_31 rfl ?_
        refine go_iload 18 rfl 4 rfl ?_
        obtain ⟨c, h⟩ := ck_inv h
        refine go_iaload 19 rfl (by first | decide | exact ok0 (by omega) | exact ok1 (by omega) | exact ok2 (by omega) | exact ok7 (by omega)) (inb_vp c) ?_
        refine go_ior 20 rfl ?_
        obtain ⟨_, c, h⟩ := bd_inv h
        cases c
        refine go_istore_n 21 rfl rfl (Nat.le_of_ble_eq_true rfl) [(0, _), (1, _), (2, _), (3, _), (4, _)] rfl ?_
        refine go_iinc 1 22 rfl 4 rfl (by decide) (Nat.le_of_ble_eq_true rfl) [(0, _), (1, _), (2, _), (3, _), (4, _)] rfl ?_
        refine go_goto 5 23 rfl (by decide) ?_
        cases h
        have g9 := ih _ hc
        exact g9
set_option maxRecDepth 20000 in
theorem w_R_refutesWith_56 {l : Launch} {post : Option PV → Mm → Prop} (c1 : Int32) (c2 : Int32) (c3 : Int32) (c4 : Int32) (M : Mm)  {r : (Int32) ⊕ (Bool)} (kk : ∀ s2, r = Sum.inl s2 → Go l X_R_refutesWith post 88 [(0, vr 5 0), (1, vi c1), (2, vi c2), (3, vi c3), (4, vi c4), (5, vi s2)] [] M) (kr : ∀ v, r = Sum.inr v → post (some (vi (bI v))) M) : ∀ (n : Nat) (s : Int32), lpN (b_R_refutesWith_56 c3 c4) n s = some r → Go l X_R_refutesWith post 56 [(0, vr 5 0), (1, vi c1), (2, vi c2), (3, vi c3), (4, vi c4), (5, vi s)] [] M := by
  intro n
  induction n with
  | zero => intro s hc; exact (lpN_0 hc).elim
  | succ n ih =>
    intro s hc
    obtain ⟨q, h, hc⟩ := lpN_inv hc
    unfold b_R_refutesWith_56 at h
    refine go_iload 33 rfl 5 rfl ?_
    refine go_bipush 8 34 rfl (by decide) ?_
    refine go_icmp_ge 88 35 rfl (by decide) (fun c => ?_) (fun c => ?_)
    · replace h := ite_t c h
      cases h
      obtain rfl := lpq_r hc
      exact kk _ rfl
    · replace h := ite_f c h
      refine go_iload_n 36 rfl 3 rfl rfl ?_
      refine go_iload 37 rfl 5 rfl ?_
      refine go_ishr 38 rfl ?_
      refine go_iconst 1 39 rfl (by decide) ?_
      refine go_iand 40 rfl ?_
      refine go_if_eq 82 41 rfl (by decide) (fun c => ?_) (fun c => ?_)
      · replace h := ite_t c h
        refine go_iinc 1 48 rfl 5 rfl (by decide) (Nat.le_of_ble_eq_true rfl) [(0, _), (1, _), (2, _), (3, _), (4, _), (5, _)] rfl ?_
        refine go_goto 56 49 rfl (by decide) ?_
        cases h
        have g9 := ih _ hc
        exact g9
      · replace h := ite_f c h
        refine go_iload 42 rfl 5 rfl ?_
        refine go_iload 43 rfl 4 rfl ?_
        refine go_iand 44 rfl ?_
        refine go_if_ne 82 45 rfl (by decide) (fun c => ?_) (fun c => ?_)
        · replace h := ite_f c h
          refine go_iinc 1 48 rfl 5 rfl (by decide) (Nat.le_of_ble_eq_true rfl) [(0, _), (1, _), (2, _), (3, _), (4, _), (5, _)] rfl ?_
          refine go_goto 56 49 rfl (by decide) ?_
          cases h
          have g9 := ih _ hc
          exact g9
        · replace h := ite_t c h
          refine go_iconst 1 46 rfl (by decide) ?_
          cases h
          obtain rfl := lpq_r hc
          exact go_ireturn 47 rfl rfl rfl (kr _ rfl)
set_option maxRecDepth 20000 in
theorem e_R_refutesWith {l : Launch} {a1 : Int32} {a2 : Int32} {M : Mm} {r : Bool}  (h : m_R_refutesWith a1 a2 M = some r) : Ev l X_R_refutesWith [vr 5 0, vi a1, vi a2] M (fun v M2 => v = (some (vi (bI r))) ∧ M2 = M) := by
  refine Ev.of mk_R_refutesWith [(0, vr 5 0), (1, vi a1), (2, vi a2)] (fun _ => rfl) (fun _ => (Nat.le_of_ble_eq_true rfl)) ?_
  unfold m_R_refutesWith at h
  refine go_iconst 0 0 rfl (by decide) ?_
  refine go_istore_n 1 rfl rfl (Nat.le_of_ble_eq_true rfl) [(0, _), (1, _), (2, _), (3, _)] rfl ?_
  refine go_iconst 0 2 rfl (by decide) ?_
  refine go_istore 3 rfl (Nat.le_of_ble_eq_true rfl) [(0, _), (1, _), (2, _), (3, _), (4, _)] rfl ?_
  obtain ⟨r3, c, h⟩ := bd_inv h
  refine w_R_refutesWith_5 _ _ _ ?_ _ _ c
  refine go_iload_n 24 rfl 3 rfl rfl ?_
  refine go_if_ne 47 25 rfl (by decide) (fun c => ?_) (fun c => ?_)
  · replace h := ite_f c h
    refine go_iload_n 28 rfl 1 rfl rfl ?_
    obtain ⟨r4, c, h⟩ := bd_inv h
    refine go_callS1 _ 29 rfl (e_P_takenRepeated c) mk_P_takenRepeated cs_R_98 rfl ⟨(Nat.le_of_ble_eq_true rfl), (Nat.le_of_ble_eq_true rfl)⟩ (Nat.le_of_ble_eq_true rfl) rfl ?_
    refine go_istore 30 rfl (Nat.le_of_ble_eq_true rfl) [(0, _), (1, _), (2, _), (3, _), (4, _)] rfl ?_
    refine go_iconst 0 31 rfl (by decide) ?_
    refine go_istore 32 rfl (Nat.le_of_ble_eq_true rfl) [(0, _), (1, _), (2, _), (3, _), (4, _), (5, _)] rfl ?_
    obtain ⟨r5, c, h⟩ := bd_inv h
    refine w_R_refutesWith_56 _ _ _ _ _ (fun s2 e => ?_) (fun v e => ?_) _ _ c
    · subst e
      replace h := smr_l h
      refine go_iconst 0 50 rfl (by decide) ?_
      cases h
      exact go_ireturn 51 rfl rfl rfl ⟨rfl, rfl⟩
    · subst e
      replace h := smr_r h
      cases h
      exact ⟨rfl, rfl⟩
  · replace h := ite_t c h
    refine go_iconst 0 26 rfl (by decide) ?_
    cases h
    exact go_ireturn 27 rfl rfl rfl ⟨rfl, rfl⟩
def X_R_refutes : MX := (⟨"OmegaDesk$Refuter", "refutes", "(LOmegaDesk$Automaton;LOmegaDesk$Automaton;)Z"⟩, prog_5_method_2_code, 11, some .boolean, { frames := 4, cells := 0, slots := 0, locals := 93 },
  [(0, .aload_n 1, 1), (1, .invokevirtual 34, 4), (4, .aload_n 1, 5), (5, .getfield 40, 8), (8, .iand, 9), (9, .istore_n 3, 10), (10, .iload_n 3, 11), (11, .ifCond .ne 5, 14), (14, .iconst 0, 15), (15, .ireturn, 16), (16, .aload_n 0, 17), (17, .invokevirtual 43, 20), (20, .aload_n 0, 21), (21, .aload_n 1, 22), (22, .aload_n 2, 23), (23, .invokevirtual 46, 26), (26, .aload_n 0, 27), (27, .aload_n 2, 28), (28, .bipush 7, 30), (30, .invokevirtual 50, 33), (33, .aload_n 1, 34), (34, .iload_n 3, 35), (35, .invokevirtual 50, 38), (38, .invokevirtual 54, 41), (41, .pop, 42), (42, .iconst 0, 43), (43, .istore 4, 45), (45, .iload 4, 47), (47, .ldc 58, 49), (49, .if_icmp .ge 104, 52), (52, .aload_n 0, 53), (53, .getfield 28, 56), (56, .ifCond .le 97, 59), (59, .aload_n 0, 60), (60, .invokevirtual 59, 63), (63, .istore 5, 65), (65, .aload_n 0, 66), (66, .getfield 11, 69), (69, .iload 5, 71), (71, .iaload, 72), (72, .iconst 1, 73), (73, .isub, 74), (74, .istore 6, 76), (76, .aload_n 0, 77), (77, .getfield 18, 80), (80, .iload 5, 82), (82, .iaload, 83), (83, .istore 7, 85), (85, .aload_n 0, 86), (86, .getfield 18, 89), (89, .iload 5, 91), (91, .iconst 0, 92), (92, .iastore, 93), (93, .iconst 0, 94), (94, .istore 8, 96), (96, .iload 8, 98), (98, .iconst 2, 99), (99, .if_icmp .ge 48, 102), (102, .aload_n 2, 103), (103, .iload 6, 105), (105, .iload 8, 107), (107, .invokevirtual 62, 110), (110, .istore 9, 112), (112, .aload_n 0, 113), (113, .iload 9, 115), (115, .aload_n 1, 116), (116, .iload 7, 118), (118, .iload 8, 120), (120, .invokevirtual 62, 123), (123, .invokevirtual 54, 126), (126, .istore 10, 128), (128, .aload_n 0, 129), (129, .iload 9, 131), (131, .iload 10, 133), (133, .invokevirtual 65, 136), (136, .ifCond .eq 5, 139), (139, .iconst 1, 140), (140, .ireturn, 141), (141, .iinc 8 1, 144), (144, .goto (-48), 147), (147, .iinc 4 1, 150), (150, .goto (-105), 153), (153, .iconst 0, 154), (154, .ireturn, 155)])
set_option maxRecDepth 20000 in
theorem mk_R_refutes : Mk X_R_refutes := ⟨by unfold TBk; decide +kernel, by decide +kernel, wb_402, ⟨by decide, by decide⟩, rfl, rfl, wb_3⟩
theorem cv_R_34 : CV "OmegaDesk$Refuter" 34 X_A_usefulStates 0 0 := ⟨Or.inl wb_403, ⟨wb_316, wb_317⟩, by decide +kernel, F_A, 3, rfl⟩
theorem fg_R_40 : FG "OmegaDesk$Refuter" 40 0 1 := ⟨R_A, F_A, 3, rfl, by decide, uw_A, Or.inr ⟨_, nw_37⟩⟩
theorem cv_R_43 : CV "OmegaDesk$Refuter" 43 X_R_reset 0 5 := ⟨Or.inl wb_404, ⟨wb_406, ws_R_reset⟩, by decide +kernel, F_R, 7, rfl⟩
theorem cv_R_46 : CV "OmegaDesk$Refuter" 46 X_R_findMeetings 2 5 := ⟨Or.inl wb_409, ⟨wb_411, ws_R_findMeetings⟩, by decide +kernel, F_R, 7, rfl⟩
theorem cv_R_50 : CV "OmegaDesk$Refuter" 50 X_A_emptyPassage 1 0 := ⟨Or.inl wb_418, ⟨wb_320, wb_321⟩, by decide +kernel, F_A, 3, rfl⟩
theorem cv_R_54 : CV "OmegaDesk$Refuter" 54 X_R_offer 2 5 := ⟨Or.inl wb_419, ⟨wb_421, ws_R_offer⟩, by decide +kernel, F_R, 7, rfl⟩
theorem cv_R_59 : CV "OmegaDesk$Refuter" 59 X_R_nextQueued 0 5 := ⟨Or.inl wb_433, ⟨wb_435, ws_R_nextQueued⟩, by decide +kernel, F_R, 7, rfl⟩
theorem cv_R_62 : CV "OmegaDesk$Refuter" 62 X_A_longerPassage 2 0 := ⟨Or.inl wb_437, ⟨wb_324, wb_325⟩, by decide +kernel, F_A, 3, rfl⟩
theorem cv_R_65 : CV "OmegaDesk$Refuter" 65 X_R_refutesWith 2 5 := ⟨Or.inl wb_438, ⟨wb_440, ws_R_refutesWith⟩, by decide +kernel, F_R, 7, rfl⟩
def b_R_refutes_96 (c1 : Nat) (c2 : Nat) (c6 : Int32) (c7 : Int32) (s : Int32 × Mm) : Option ((Int32 × Mm) ⊕ ((Int32 × Mm) ⊕ (Bool × Mm))) :=
  if (2 : Int32) ≤ s.1 then
    some (Sum.inr (Sum.inl (s.1, s.2)))
  else
    bd (m_A_longerPassage c2 c6 s.1 s.2) fun r10 =>
    bd (m_A_longerPassage c1 c7 s.1 s.2) fun r11 =>
    bd (m_R_offer r10 r11 s.2) fun r12 =>
    bd (m_R_refutesWith r10 r12.1 r12.2) fun r13 =>
    if (bI r13) = 0 then
      some (Sum.inl ((s.1 + 1), r12.2))
    else
      some (Sum.inr (Sum.inr (true, r12.2)))
def b_R_refutes_45 (c1 : Nat) (c2 : Nat) (s : Int32 × Mm) : Option ((Int32 × Mm) ⊕ ((Int32 × Mm) ⊕ (Bool × Mm))) :=
  if (32768 : Int32) ≤ s.1 then
    some (Sum.inr (Sum.inl (s.1, s.2)))
  else
    if (s.2.1 (5, 0) 5) ≤ 0 then
      some (Sum.inr (Sum.inl (s.1, s.2)))
    else
      bd (m_R_nextQueued  s.2) fun r7 =>
      ck (inb r7.1 (lenI 7)) <|
      bd (some ((r7.2.1 (1, 7) r7.1.toNatClampNeg) - (1 : Int32))) fun x8 =>
      ck (inb r7.1 (lenI 9)) <|
      ck (inb r7.1 (lenI 9)) <|
      bd (some (uI r7.2 (1, 9) r7.1.toNatClampNeg (0 : Int32))) fun M9 =>
      bd (lp (b_R_refutes_96 c1 c2 x8 (r7.2.1 (1, 9) r7.1.toNatClampNeg)) ((0 : Int32), M9)) fun r14 =>
      smr r14 (fun v16 => some (Sum.inr (Sum.inr v16))) fun s15 =>
      some (Sum.inl ((s.1 + 1), s15.2))
def m_R_refutes (a1 : Nat) (a2 : Nat) (M : Mm) : Option (Bool × Mm) :=
  bd (m_A_usefulStates a1 M) fun r1 =>
  if (r1 &&& (M.1 (0, a1) 1)) = 0 then
    some (false, M)
  else
    bd (m_R_reset  M) fun r2 =>
    bd (m_R_findMeetings a1 a2 r2) fun r3 =>
    bd (m_A_emptyPassage a2 (7 : Int32) r3) fun r4 =>
    bd (m_A_emptyPassage a1 (r1 &&& (M.1 (0, a1) 1)) r3) fun r5 =>
    bd (m_R_offer r4 r5 r3) fun r6 =>
    bd (lp (b_R_refutes_45 a1 a2) ((0 : Int32), r6.2)) fun r17 =>
    smr r17 (fun v19 => some v19) fun s18 =>
    some (false, s18.2)
set_option maxRecDepth 20000 in
theorem w_R_refutes_96 {l : Launch} {post : Option PV → Mm → Prop} (c1 : Nat) (c2 : Nat) (c3 : Int32) (c4 : Int32) (c5 : Int32) (c6 : Int32) (c7 : Int32) (h1 : c1 < 7) (h2 : c2 < 7) {r : (Int32 × Mm) ⊕ (Bool × Mm)} (kk : ∀ s2, r = Sum.inl s2 → Go l X_R_refutes post 147 [(0, vr 5 0), (1, vr 0 c1), (2, vr 0 c2), (3, vi c3), (4, vi c4), (5, vi c5), (6, vi c6), (7, vi c7), (8, vi s2.1)] [] s2.2) (kr : ∀ v, r = Sum.inr v → post (some (vi (bI v.1))) v.2) : ∀ (n : Nat) (s : Int32 × Mm), lpN (b_R_refutes_96 c1 c2 c6 c7) n s = some r → Go l X_R_refutes post 96 [(0, vr 5 0), (1, vr 0 c1), (2, vr 0 c2), (3, vi c3), (4, vi c4), (5, vi c5), (6, vi c6), (7, vi c7), (8, vi s.1)] [] s.2 := by
  intro n
  induction n with
  | zero => intro s hc; exact (lpN_0 hc).elim
  | succ n ih =>
    intro s hc
    obtain ⟨q, h, hc⟩ := lpN_inv hc
    unfold b_R_refutes_96 at h
    refine go_iload 55 rfl 8 rfl ?_
    refine go_iconst 2 56 rfl (by decide) ?_
    refine go_icmp_ge 147 57 rfl (by decide) (fun c => ?_) (fun c => ?_)
    · replace h := ite_t c h
      cases h
      obtain rfl := lpq_r hc
      exact kk _ rfl
    · replace h := ite_f c h
      refine go_aload_n 58 rfl 2 rfl rfl ?_
      refine go_iload 59 rfl 6 rfl ?_
      refine go_iload 60 rfl 8 rfl ?_
      obtain ⟨r10, c, h⟩ := bd_inv h
      refine go_callV1 _ 61 rfl (e_A_longerPassage (by omega) c) mk_A_longerPassage (by first | decide | exact ok0 (by omega) | exact ok1 (by omega) | exact ok2 (by omega) | exact ok7 (by omega)) rfl cv_R_62 rfl ⟨(Nat.le_of_ble_eq_true rfl), (Nat.le_of_ble_eq_true rfl)⟩ (Nat.le_of_ble_eq_true rfl) rfl ?_
      refine go_istore 62 rfl (Nat.le_of_ble_eq_true rfl) [(0, _), (1, _), (2, _), (3, _), (4, _), (5, _), (6, _), (7, _), (8, _), (9, _)] rfl ?_
      refine go_aload_n 63 rfl 0 rfl rfl ?_
      refine go_iload 64 rfl 9 rfl ?_
      refine go_aload_n 65 rfl 1 rfl rfl ?_
      refine go_iload 66 rfl 7 rfl ?_
      refine go_iload 67 rfl 8 rfl ?_
      obtain ⟨r11, c, h⟩ := bd_inv h
      refine go_callV1 _ 68 rfl (e_A_longerPassage (by omega) c) mk_A_longerPassage (by first | decide | exact ok0 (by omega) | exact ok1 (by omega) | exact ok2 (by omega) | exact ok7 (by omega)) rfl cv_R_62 rfl ⟨(Nat.le_of_ble_eq_true rfl), (Nat.le_of_ble_eq_true rfl)⟩ (Nat.le_of_ble_eq_true rfl) rfl ?_
      obtain ⟨r12, c, h⟩ := bd_inv h
      refine go_callV1 _ 69 rfl (e_R_offer c) mk_R_offer (by first | decide | exact ok0 (by omega) | exact ok1 (by omega) | exact ok2 (by omega) | exact ok7 (by omega)) rfl cv_R_54 rfl ⟨(Nat.le_of_ble_eq_true rfl), (Nat.le_of_ble_eq_true rfl)⟩ (Nat.le_of_ble_eq_true rfl) rfl ?_
      refine go_istore 70 rfl (Nat.le_of_ble_eq_true rfl) [(0, _), (1, _), (2, _), (3, _), (4, _), (5, _), (6, _), (7, _), (8, _), (9, _), (10, _)] rfl ?_
      refine go_aload_n 71 rfl 0 rfl rfl ?_
      refine go_iload 72 rfl 9 rfl ?_
      refine go_iload 73 rfl 10 rfl ?_
      obtain ⟨r13, c, h⟩ := bd_inv h
      refine go_callV1 _ 74 rfl (e_R_refutesWith c) mk_R_refutesWith (by first | decide | exact ok0 (by omega) | exact ok1 (by omega) | exact ok2 (by omega) | exact ok7 (by omega)) rfl cv_R_65 rfl ⟨(Nat.le_of_ble_eq_true rfl), (Nat.le_of_ble_eq_true rfl)⟩ (Nat.le_of_ble_eq_true rfl) rfl ?_
      refine go_if_eq 141 75 rfl (by decide) (fun c => ?_) (fun c => ?_)
      · replace h := ite_t c h
        refine go_iinc 1 78 rfl 8 rfl (by decide) (Nat.le_of_ble_eq_true rfl) [(0, _), (1, _), (2, _), (3, _), (4, _), (5, _), (6, _), (7, _), (8, _), (9, _), (10, _)] rfl ?_
        refine go_goto 96 79 rfl (by decide) ?_
        cases h
        refine go_sub [0, 1, 2, 3, 4, 5, 6, 7, 8] rfl ?_
        have g9 := ih _ hc
        exact g9
      · replace h := ite_f c h
        refine go_iconst 1 76 rfl (by decide) ?_
        cases h
        obtain rfl := lpq_r hc
        exact go_ireturn 77 rfl rfl rfl (kr _ rfl)
set_option maxRecDepth 20000 in
theorem w_R_refutes_45 {l : Launch} {post : Option PV → Mm → Prop} (c1 : Nat) (c2 : Nat) (c3 : Int32) (h1 : c1 < 7) (h2 : c2 < 7) {r : (Int32 × Mm) ⊕ (Bool × Mm)} (kk : ∀ s2, r = Sum.inl s2 → Go l X_R_refutes post 153 [(0, vr 5 0), (1, vr 0 c1), (2, vr 0 c2), (3, vi c3), (4, vi s2.1)] [] s2.2) (kr : ∀ v, r = Sum.inr v → post (some (vi (bI v.1))) v.2) : ∀ (n : Nat) (s : Int32 × Mm), lpN (b_R_refutes_45 c1 c2) n s = some r → Go l X_R_refutes post 45 [(0, vr 5 0), (1, vr 0 c1), (2, vr 0 c2), (3, vi c3), (4, vi s.1)] [] s.2 := by
  intro n
  induction n with
  | zero => intro s hc; exact (lpN_0 hc).elim
  | succ n ih =>
    intro s hc
    obtain ⟨q, h, hc⟩ := lpN_inv hc
    unfold b_R_refutes_45 at h
    refine go_iload 27 rfl 4 rfl ?_
    refine go_ldc 32768 28 rfl wb_432 ?_
    refine go_icmp_ge 153 29 rfl (by decide) (fun c => ?_) (fun c => ?_)
    · replace h := ite_t c h
      cases h
      obtain rfl := lpq_r hc
      exact kk _ rfl
    · replace h := ite_f c h
      refine go_aload_n 30 rfl 0 rfl rfl ?_
      refine go_getfield 5 _ 31 rfl (by first | decide | exact ok0 (by omega) | exact ok1 (by omega) | exact ok2 (by omega) | exact ok7 (by omega)) rfl fg_R_28 rfl ?_
      refine go_if_le 153 32 rfl (by decide) (fun c => ?_) (fun c => ?_)
      · replace h := ite_t c h
        cases h
        obtain rfl := lpq_r hc
        exact kk _ rfl
      · replace h := ite_f c h
        refine go_aload_n 33 rfl 0 rfl rfl ?_
        obtain ⟨r7, c, h⟩ := bd_inv h
        refine go_callV1 _ 34 rfl (e_R_nextQueued c) mk_R_nextQueued (by first | decide | exact ok0 (by omega) | exact ok1 (by omega) | exact ok2 (by omega) | exact ok7 (by omega)) rfl cv_R_59 rfl ⟨(Nat.le_of_ble_eq_true rfl), (Nat.le_of_ble_eq_true rfl)⟩ (Nat.le_of_ble_eq_true rfl) rfl ?_
        refine go_istore 35 rfl (Nat.le_of_ble_eq_true rfl) [(0, _), (1, _), (2, _), (3, _), (4, _), (5, _)] rfl ?_
        refine go_aload_n 36 rfl 0 rfl rfl ?_
        refine go_getfield 0 _ 37 rfl (by first | decide | exact ok0 (by omega) | exact ok1 (by omega) | exact ok2 (by omega) | exact ok7 (by omega)) rfl fg_R_11 rfl ?_
        refine go_iload 38 rfl 5 rfl ?_
        obtain ⟨c, h⟩ := ck_inv h
        refine go_iaload 39 rfl (by first | decide | exact ok0 (by omega) | exact ok1 (by omega) | exact ok2 (by omega) | exact ok7 (by omega)) (inb_vp c) ?_
        refine go_iconst 1 40 rfl (by decide) ?_
        refine go_isub 41 rfl ?_
        obtain ⟨_, c, h⟩ := bd_inv h
        cases c
        refine go_istore 42 rfl (Nat.le_of_ble_eq_true rfl) [(0, _), (1, _), (2, _), (3, _), (4, _), (5, _), (6, _)] rfl ?_
        refine go_aload_n 43 rfl 0 rfl rfl ?_
        refine go_getfield 2 _ 44 rfl (by first | decide | exact ok0 (by omega) | exact ok1 (by omega) | exact ok2 (by omega) | exact ok7 (by omega)) rfl fg_R_18 rfl ?_
        refine go_iload 45 rfl 5 rfl ?_
        obtain ⟨c, h⟩ := ck_inv h
        refine go_iaload 46 rfl (by first | decide | exact ok0 (by omega) | exact ok1 (by omega) | exact ok2 (by omega) | exact ok7 (by omega)) (inb_vp c) ?_
        refine go_istore 47 rfl (Nat.le_of_ble_eq_true rfl) [(0, _), (1, _), (2, _), (3, _), (4, _), (5, _), (6, _), (7, _)] rfl ?_
        refine go_aload_n 48 rfl 0 rfl rfl ?_
        refine go_getfield 2 _ 49 rfl (by first | decide | exact ok0 (by omega) | exact ok1 (by omega) | exact ok2 (by omega) | exact ok7 (by omega)) rfl fg_R_18 rfl ?_
        refine go_iload 50 rfl 5 rfl ?_
        refine go_iconst 0 51 rfl (by decide) ?_
        obtain ⟨c, h⟩ := ck_inv h
        refine go_iastore 52 rfl (by first | decide | exact ok0 (by omega) | exact ok1 (by omega) | exact ok2 (by omega) | exact ok7 (by omega)) (inb_vp c) ?_
        obtain ⟨_, c, h⟩ := bd_inv h
        cases c
        refine go_iconst 0 53 rfl (by decide) ?_
        refine go_istore 54 rfl (Nat.le_of_ble_eq_true rfl) [(0, _), (1, _), (2, _), (3, _), (4, _), (5, _), (6, _), (7, _), (8, _)] rfl ?_
        obtain ⟨r14, c, h⟩ := bd_inv h
        refine w_R_refutes_96 _ _ _ _ _ _ _ (by omega) (by omega) (fun s2 e => ?_) (fun v e => ?_) _ _ c
        · subst e
          replace h := smr_l h
          refine go_iinc 1 80 rfl 4 rfl (by decide) (Nat.le_of_ble_eq_true rfl) [(0, _), (1, _), (2, _), (3, _), (4, _), (5, _), (6, _), (7, _), (8, _)] rfl ?_
          refine go_goto 45 81 rfl (by decide) ?_
          cases h
          refine go_sub [0, 1, 2, 3, 4] rfl ?_
          have g9 := ih _ hc
          exact g9
        · subst e
          replace h := smr_r h
          cases h
          obtain rfl := lpq_r hc
          exact kr _ rfl
set_option maxRecDepth 20000 in
theorem e_R_refutes {l : Launch} {a1 : Nat} {a2 : Nat} {M : Mm} {r : Bool × Mm} (h1 : a1 < 7) (h2 : a2 < 7) (h : m_R_refutes a1 a2 M = some r) : Ev l X_R_refutes [vr 5 0, vr 0 a1, vr 0 a2] M (fun v M2 => v = (some (vi (bI r.1))) ∧ M2 = r.2) := by
  refine Ev.of mk_R_refutes [(0, vr 5 0), (1, vr 0 a1), (2, vr 0 a2)] (fun _ => rfl) (fun _ => (Nat.le_of_ble_eq_true rfl)) ?_
  unfold m_R_refutes at h
  refine go_aload_n 0 rfl 1 rfl rfl ?_
  obtain ⟨r1, c, h⟩ := bd_inv h
  refine go_callV1 _ 1 rfl (e_A_usefulStates (by omega) c) mk_A_usefulStates (by first | decide | exact ok0 (by omega) | exact ok1 (by omega) | exact ok2 (by omega) | exact ok7 (by omega)) rfl cv_R_34 rfl ⟨(Nat.le_of_ble_eq_true rfl), (Nat.le_of_ble_eq_true rfl)⟩ (Nat.le_of_ble_eq_true rfl) rfl ?_
  refine go_aload_n 2 rfl 1 rfl rfl ?_
  refine go_getfield 1 _ 3 rfl (by first | decide | exact ok0 (by omega) | exact ok1 (by omega) | exact ok2 (by omega) | exact ok7 (by omega)) rfl fg_R_40 rfl ?_
  refine go_iand 4 rfl ?_
  refine go_istore_n 5 rfl rfl (Nat.le_of_ble_eq_true rfl) [(0, _), (1, _), (2, _), (3, _)] rfl ?_
  refine go_iload_n 6 rfl 3 rfl rfl ?_
  refine go_if_ne 16 7 rfl (by decide) (fun c => ?_) (fun c => ?_)
  · replace h := ite_f c h
    refine go_aload_n 10 rfl 0 rfl rfl ?_
    obtain ⟨r2, c, h⟩ := bd_inv h
    refine go_callV1 _ 11 rfl (e_R_reset c) mk_R_reset (by first | decide | exact ok0 (by omega) | exact ok1 (by omega) | exact ok2 (by omega) | exact ok7 (by omega)) rfl cv_R_43 rfl ⟨(Nat.le_of_ble_eq_true rfl), (Nat.le_of_ble_eq_true rfl)⟩ (Nat.le_of_ble_eq_true rfl) rfl ?_
    refine go_aload_n 12 rfl 0 rfl rfl ?_
    refine go_aload_n 13 rfl 1 rfl rfl ?_
    refine go_aload_n 14 rfl 2 rfl rfl ?_
    obtain ⟨r3, c, h⟩ := bd_inv h
    refine go_callV1 _ 15 rfl (e_R_findMeetings (by omega) (by omega) c) mk_R_findMeetings (by first | decide | exact ok0 (by omega) | exact ok1 (by omega) | exact ok2 (by omega) | exact ok7 (by omega)) rfl cv_R_46 rfl ⟨(Nat.le_of_ble_eq_true rfl), (Nat.le_of_ble_eq_true rfl)⟩ (Nat.le_of_ble_eq_true rfl) rfl ?_
    refine go_aload_n 16 rfl 0 rfl rfl ?_
    refine go_aload_n 17 rfl 2 rfl rfl ?_
    refine go_bipush 7 18 rfl (by decide) ?_
    obtain ⟨r4, c, h⟩ := bd_inv h
    refine go_callV1 _ 19 rfl (e_A_emptyPassage (by omega) c) mk_A_emptyPassage (by first | decide | exact ok0 (by omega) | exact ok1 (by omega) | exact ok2 (by omega) | exact ok7 (by omega)) rfl cv_R_50 rfl ⟨(Nat.le_of_ble_eq_true rfl), (Nat.le_of_ble_eq_true rfl)⟩ (Nat.le_of_ble_eq_true rfl) rfl ?_
    refine go_aload_n 20 rfl 1 rfl rfl ?_
    refine go_iload_n 21 rfl 3 rfl rfl ?_
    obtain ⟨r5, c, h⟩ := bd_inv h
    refine go_callV1 _ 22 rfl (e_A_emptyPassage (by omega) c) mk_A_emptyPassage (by first | decide | exact ok0 (by omega) | exact ok1 (by omega) | exact ok2 (by omega) | exact ok7 (by omega)) rfl cv_R_50 rfl ⟨(Nat.le_of_ble_eq_true rfl), (Nat.le_of_ble_eq_true rfl)⟩ (Nat.le_of_ble_eq_true rfl) rfl ?_
    obtain ⟨r6, c, h⟩ := bd_inv h
    refine go_callV1 _ 23 rfl (e_R_offer c) mk_R_offer (by first | decide | exact ok0 (by omega) | exact ok1 (by omega) | exact ok2 (by omega) | exact ok7 (by omega)) rfl cv_R_54 rfl ⟨(Nat.le_of_ble_eq_true rfl), (Nat.le_of_ble_eq_true rfl)⟩ (Nat.le_of_ble_eq_true rfl) rfl ?_
    refine go_pop 24 rfl rfl ?_
    refine go_iconst 0 25 rfl (by decide) ?_
    refine go_istore 26 rfl (Nat.le_of_ble_eq_true rfl) [(0, _), (1, _), (2, _), (3, _), (4, _)] rfl ?_
    obtain ⟨r17, c, h⟩ := bd_inv h
    refine w_R_refutes_45 _ _ _ (by omega) (by omega) (fun s2 e => ?_) (fun v e => ?_) _ _ c
    · subst e
      replace h := smr_l h
      refine go_iconst 0 82 rfl (by decide) ?_
      cases h
      exact go_ireturn 83 rfl rfl rfl ⟨rfl, rfl⟩
    · subst e
      replace h := smr_r h
      cases h
      exact ⟨rfl, rfl⟩
  · replace h := ite_t c h
    refine go_iconst 0 8 rfl (by decide) ?_
    cases h
    exact go_ireturn 9 rfl rfl rfl ⟨rfl, rfl⟩
