def X_T_init : MX := (⟨"OmegaDesk$WordTable", "<init>", "()V"⟩, prog_6_method_1_code, 1, none, { frames := 1, cells := 2, slots := 1024, locals := 20 },
  [(0, .aload_n 0, 1), (1, .invokespecial 3, 4), (4, .aload_n 0, 5), (5, .sipush 512, 8), (8, .newarray .int, 10), (10, .putfield 11, 13), (13, .aload_n 0, 14), (14, .sipush 512, 17), (17, .newarray .int, 19), (19, .putfield 15, 22), (22, .return_, 23)])
set_option maxRecDepth 20000 in
theorem mk_T_init : MkX X_T_init := ⟨by unfold TBk; decide +kernel, by decide +kernel, wb_85, ⟨by decide, by decide⟩, wb_5⟩
def wT_T (z : Zc) (h0 : Nat) (u : Nat → Nat) : va_W := [(h0, .inr (4, [.ref (u 0), .ref (u 1)])), ((u 0), .inl (z.1, 512, .inl (fun _ => 0))), ((u 1), .inl (z.1, 512, .inl (fun _ => 0)))]
set_option maxHeartbeats 4000000 in
set_option maxRecDepth 20000 in
theorem k_T_init (l : Launch) (D : va_G) (z : Zc) (h0 : Nat) : EvK l X_T_init D z h0 (.inr (4, [.null, .null])) (fun ws => ∃ u : Nat → Nat, ws = wT_T z h0 u) := by
  refine EvK.of mk_T_init (by decide) ?_
  intro A p e s m args below meth c C hr hlk
  refine k_aload0 C 0 rfl 0 rfl rfl ?_
  refine k_objinit C 1 rfl wb_86 (Nat.le_of_ble_eq_true rfl) (Nat.le_of_ble_eq_true rfl) ?_
  refine k_aload0 C 2 rfl 0 rfl rfl ?_
  refine k_sipush C 512 3 rfl (by decide) ?_
  refine k_newi C 512 4 rfl (by decide) (by decide) (by decide) (1, 512) rfl (by decide) (fun q1 => ?_)
  refine k_put C (ci := 4) 0 0 tf_T (.array .int) 5 rfl rfl uw_T tf_T_ok nf_T rfl (by decide) wb_87 rfl rfl (by decide +kernel) rfl rfl (Nat.le_of_ble_eq_true rfl) [(h0, .inr (4, [.ref q1, .null])), (q1, .inl (z.1, 512, .inl (fun _ => 0)))] rfl ?_
  refine k_aload0 C 6 rfl 0 rfl rfl ?_
  refine k_sipush C 512 7 rfl (by decide) ?_
  refine k_newi C 512 8 rfl (by decide) (by decide) (by decide) (2, 1024) rfl (by decide) (fun q2 => ?_)
  refine k_put C (ci := 4) 0 1 tf_T (.array .int) 9 rfl rfl uw_T tf_T_ok nf_T rfl (by decide) wb_88 rfl rfl (by decide +kernel) rfl rfl (Nat.le_of_ble_eq_true rfl) [(h0, .inr (4, [.ref q1, .ref q2])), (q1, .inl (z.1, 512, .inl (fun _ => 0))), (q2, .inl (z.1, 512, .inl (fun _ => 0)))] rfl ?_
  exact k_ret C 10 rfl hr hlk ⟨fun i => [q1, q2].getD i 0, rfl⟩
def X_A_init : MX := (⟨"OmegaDesk$Automaton", "<init>", "()V"⟩, prog_2_method_1_code, 1, none, { frames := 1, cells := 1, slots := 32, locals := 20 },
  [(0, .aload_n 0, 1), (1, .invokespecial 3, 4), (4, .aload_n 0, 5), (5, .iconst 0, 6), (6, .putfield 9, 9), (9, .aload_n 0, 10), (10, .iconst 0, 11), (11, .putfield 15, 14), (14, .aload_n 0, 15), (15, .bipush 32, 17), (17, .newarray .int, 19), (19, .putfield 18, 22), (22, .return_, 23)])
set_option maxRecDepth 20000 in
theorem mk_A_init : MkX X_A_init := ⟨by unfold TBk; decide +kernel, by decide +kernel, wb_30, ⟨by decide, by decide⟩, wb_2⟩
def wT_A (z : Zc) (h0 : Nat) (u : Nat → Nat) : va_W := [(h0, .inr (0, [.int 0, .int 0, .ref (u 0)])), ((u 0), .inl (z.1, 32, .inl (fun _ => 0)))]
set_option maxHeartbeats 4000000 in
set_option maxRecDepth 20000 in
theorem k_A_init (l : Launch) (D : va_G) (z : Zc) (h0 : Nat) : EvK l X_A_init D z h0 (.inr (0, [.int 0, .int 0, .null])) (fun ws => ∃ u : Nat → Nat, ws = wT_A z h0 u) := by
  refine EvK.of mk_A_init (by decide) ?_
  intro A p e s m args below meth c C hr hlk
  refine k_aload0 C 0 rfl 0 rfl rfl ?_
  refine k_objinit C 1 rfl wb_31 (Nat.le_of_ble_eq_true rfl) (Nat.le_of_ble_eq_true rfl) ?_
  refine k_aload0 C 2 rfl 0 rfl rfl ?_
  refine k_iconst C 0 3 rfl (by decide) ?_
  refine k_put C (ci := 0) 0 0 tf_A (.int) 4 rfl rfl uw_A tf_A_ok nf_A rfl (by decide) wb_32 rfl rfl (by decide +kernel) rfl rfl (Nat.le_of_ble_eq_true rfl) [(h0, .inr (0, [.int 0, .int 0, .null]))] rfl ?_
  refine k_aload0 C 5 rfl 0 rfl rfl ?_
  refine k_iconst C 0 6 rfl (by decide) ?_
  refine k_put C (ci := 0) 0 1 tf_A (.int) 7 rfl rfl uw_A tf_A_ok nf_A rfl (by decide) wb_36 rfl rfl (by decide +kernel) rfl rfl (Nat.le_of_ble_eq_true rfl) [(h0, .inr (0, [.int 0, .int 0, .null]))] rfl ?_
  refine k_aload0 C 8 rfl 0 rfl rfl ?_
  refine k_bipush C 32 9 rfl (by decide) ?_
  refine k_newi C 32 10 rfl (by decide) (by decide) (by decide) (1, 32) rfl (by decide) (fun q1 => ?_)
  refine k_put C (ci := 0) 0 2 tf_A (.array .int) 11 rfl rfl uw_A tf_A_ok nf_A rfl (by decide) wb_38 rfl rfl (by decide +kernel) rfl rfl (Nat.le_of_ble_eq_true rfl) [(h0, .inr (0, [.int 0, .int 0, .ref q1])), (q1, .inl (z.1, 32, .inl (fun _ => 0)))] rfl ?_
  exact k_ret C 12 rfl hr hlk ⟨fun i => [q1].getD i 0, rfl⟩
def X_R_init : MX := (⟨"OmegaDesk$Refuter", "<init>", "()V"⟩, prog_5_method_1_code, 1, none, { frames := 1, cells := 5, slots := 4100, locals := 20 },
  [(0, .aload_n 0, 1), (1, .invokespecial 5, 4), (4, .aload_n 0, 5), (5, .sipush 1024, 8), (8, .newarray .int, 10), (10, .putfield 11, 13), (13, .aload_n 0, 14), (14, .sipush 1024, 17), (17, .newarray .int, 19), (19, .putfield 15, 22), (22, .aload_n 0, 23), (23, .sipush 1024, 26), (26, .newarray .int, 28), (28, .putfield 18, 31), (31, .aload_n 0, 32), (32, .sipush 1024, 35), (35, .newarray .int, 37), (37, .putfield 21, 40), (40, .aload_n 0, 41), (41, .iconst 0, 42), (42, .putfield 24, 45), (45, .aload_n 0, 46), (46, .iconst 0, 47), (47, .putfield 28, 50), (50, .aload_n 0, 51), (51, .iconst 4, 52), (52, .newarray .int, 54), (54, .putfield 31, 57), (57, .return_, 58)])
set_option maxRecDepth 20000 in
theorem mk_R_init : MkX X_R_init := ⟨by unfold TBk; decide +kernel, by decide +kernel, wb_51, ⟨by decide, by decide⟩, wb_3⟩
def wT_R (z : Zc) (h0 : Nat) (u : Nat → Nat) : va_W := [(h0, .inr (2, [.ref (u 0), .ref (u 1), .ref (u 2), .ref (u 3), .int 0, .int 0, .ref (u 4)])), ((u 0), .inl (z.1, 1024, .inl (fun _ => 0))), ((u 1), .inl (z.1, 1024, .inl (fun _ => 0))), ((u 2), .inl (z.1, 1024, .inl (fun _ => 0))), ((u 3), .inl (z.1, 1024, .inl (fun _ => 0))), ((u 4), .inl (z.1, 4, .inl (fun _ => 0)))]
set_option maxHeartbeats 4000000 in
set_option maxRecDepth 20000 in
theorem k_R_init (l : Launch) (D : va_G) (z : Zc) (h0 : Nat) : EvK l X_R_init D z h0 (.inr (2, [.null, .null, .null, .null, .int 0, .int 0, .null])) (fun ws => ∃ u : Nat → Nat, ws = wT_R z h0 u) := by
  refine EvK.of mk_R_init (by decide) ?_
  intro A p e s m args below meth c C hr hlk
  refine k_aload0 C 0 rfl 0 rfl rfl ?_
  refine k_objinit C 1 rfl wb_52 (Nat.le_of_ble_eq_true rfl) (Nat.le_of_ble_eq_true rfl) ?_
  refine k_aload0 C 2 rfl 0 rfl rfl ?_
  refine k_sipush C 1024 3 rfl (by decide) ?_
  refine k_newi C 1024 4 rfl (by decide) (by decide) (by decide) (1, 1024) rfl (by decide) (fun q1 => ?_)
  refine k_put C (ci := 2) 0 0 tf_R (.array .int) 5 rfl rfl uw_R tf_R_ok nf_R rfl (by decide) wb_53 rfl rfl (by decide +kernel) rfl rfl (Nat.le_of_ble_eq_true rfl) [(h0, .inr (2, [.ref q1, .null, .null, .null, .int 0, .int 0, .null])), (q1, .inl (z.1, 1024, .inl (fun _ => 0)))] rfl ?_
  refine k_aload0 C 6 rfl 0 rfl rfl ?_
  refine k_sipush C 1024 7 rfl (by decide) ?_
  refine k_newi C 1024 8 rfl (by decide) (by decide) (by decide) (2, 2048) rfl (by decide) (fun q2 => ?_)
  refine k_put C (ci := 2) 0 1 tf_R (.array .int) 9 rfl rfl uw_R tf_R_ok nf_R rfl (by decide) wb_54 rfl rfl (by decide +kernel) rfl rfl (Nat.le_of_ble_eq_true rfl) [(h0, .inr (2, [.ref q1, .ref q2, .null, .null, .int 0, .int 0, .null])), (q1, .inl (z.1, 1024, .inl (fun _ => 0))), (q2, .inl (z.1, 1024, .inl (fun _ => 0)))] rfl ?_
  refine k_aload0 C 10 rfl 0 rfl rfl ?_
  refine k_sipush C 1024 11 rfl (by decide) ?_
  refine k_newi C 1024 12 rfl (by decide) (by decide) (by decide) (3, 3072) rfl (by decide) (fun q3 => ?_)
  refine k_put C (ci := 2) 0 2 tf_R (.array .int) 13 rfl rfl uw_R tf_R_ok nf_R rfl (by decide) wb_55 rfl rfl (by decide +kernel) rfl rfl (Nat.le_of_ble_eq_true rfl) [(h0, .inr (2, [.ref q1, .ref q2, .ref q3, .null, .int 0, .int 0, .null])), (q1, .inl (z.1, 1024, .inl (fun _ => 0))), (q2, .inl (z.1, 1024, .inl (fun _ => 0))), (q3, .inl (z.1, 1024, .inl (fun _ => 0)))] rfl ?_
  refine k_aload0 C 14 rfl 0 rfl rfl ?_
  refine k_sipush C 1024 15 rfl (by decide) ?_
  refine k_newi C 1024 16 rfl (by decide) (by decide) (by decide) (4, 4096) rfl (by decide) (fun q4 => ?_)
  refine k_put C (ci := 2) 0 3 tf_R (.array .int) 17 rfl rfl uw_R tf_R_ok nf_R rfl (by decide) wb_56 rfl rfl (by decide +kernel) rfl rfl (Nat.le_of_ble_eq_true rfl) [(h0, .inr (2, [.ref q1, .ref q2, .ref q3, .ref q4, .int 0, .int 0, .null])), (q1, .inl (z.1, 1024, .inl (fun _ => 0))), (q2, .inl (z.1, 1024, .inl (fun _ => 0))), (q3, .inl (z.1, 1024, .inl (fun _ => 0))), (q4, .inl (z.1, 1024, .inl (fun _ => 0)))] rfl ?_
  refine k_aload0 C 18 rfl 0 rfl rfl ?_
  refine k_iconst C 0 19 rfl (by decide) ?_
  refine k_put C (ci := 2) 0 4 tf_R (.int) 20 rfl rfl uw_R tf_R_ok nf_R rfl (by decide) wb_57 rfl rfl (by decide +kernel) rfl rfl (Nat.le_of_ble_eq_true rfl) [(h0, .inr (2, [.ref q1, .ref q2, .ref q3, .ref q4, .int 0, .int 0, .null])), (q1, .inl (z.1, 1024, .inl (fun _ => 0))), (q2, .inl (z.1, 1024, .inl (fun _ => 0))), (q3, .inl (z.1, 1024, .inl (fun _ => 0))), (q4, .inl (z.1, 1024, .inl (fun _ => 0)))] rfl ?_
  refine k_aload0 C 21 rfl 0 rfl rfl ?_
  refine k_iconst C 0 22 rfl (by decide) ?_
  refine k_put C (ci := 2) 0 5 tf_R (.int) 23 rfl rfl uw_R tf_R_ok nf_R rfl (by decide) wb_58 rfl rfl (by decide +kernel) rfl rfl (Nat.le_of_ble_eq_true rfl) [(h0, .inr (2, [.ref q1, .ref q2, .ref q3, .ref q4, .int 0, .int 0, .null])), (q1, .inl (z.1, 1024, .inl (fun _ => 0))), (q2, .inl (z.1, 1024, .inl (fun _ => 0))), (q3, .inl (z.1, 1024, .inl (fun _ => 0))), (q4, .inl (z.1, 1024, .inl (fun _ => 0)))] rfl ?_
  refine k_aload0 C 24 rfl 0 rfl rfl ?_
  refine k_iconst C 4 25 rfl (by decide) ?_
  refine k_newi C 4 26 rfl (by decide) (by decide) (by decide) (5, 4100) rfl (by decide) (fun q5 => ?_)
  refine k_put C (ci := 2) 0 6 tf_R (.array .int) 27 rfl rfl uw_R tf_R_ok nf_R rfl (by decide) wb_59 rfl rfl (by decide +kernel) rfl rfl (Nat.le_of_ble_eq_true rfl) [(h0, .inr (2, [.ref q1, .ref q2, .ref q3, .ref q4, .int 0, .int 0, .ref q5])), (q1, .inl (z.1, 1024, .inl (fun _ => 0))), (q2, .inl (z.1, 1024, .inl (fun _ => 0))), (q3, .inl (z.1, 1024, .inl (fun _ => 0))), (q4, .inl (z.1, 1024, .inl (fun _ => 0))), (q5, .inl (z.1, 4, .inl (fun _ => 0)))] rfl ?_
  exact k_ret C 28 rfl hr hlk ⟨fun i => [q1, q2, q3, q4, q5].getD i 0, rfl⟩
def X_M_init : MX := (⟨"OmegaDeskModel", "<init>", "()V"⟩, prog_8_method_1_code, 1, none, { frames := 1, cells := 10, slots := 7469, locals := 20 },
  [(0, .aload_n 0, 1), (1, .invokespecial 1, 4), (4, .aload_n 0, 5), (5, .bipush 48, 7), (7, .newarray .int, 9), (9, .putfield 7, 12), (12, .aload_n 0, 13), (13, .bipush 6, 15), (15, .newarray .int, 17), (17, .putfield 13, 20), (20, .aload_n 0, 21), (21, .bipush 6, 23), (23, .newarray .int, 25), (25, .putfield 16, 28), (28, .aload_n 0, 29), (29, .iconst 4, 30), (30, .newarray .int, 32), (32, .putfield 19, 35), (35, .aload_n 0, 36), (36, .sipush 2461, 39), (39, .newarray .long, 41), (41, .putfield 22, 44), (44, .aload_n 0, 45), (45, .sipush 2461, 48), (48, .newarray .long, 50), (50, .putfield 26, 53), (53, .aload_n 0, 54), (54, .sipush 2461, 57), (57, .newarray .long, 59), (59, .putfield 29, 62), (62, .aload_n 0, 63), (63, .bipush 9, 65), (65, .newarray .int, 67), (67, .putfield 32, 70), (70, .aload_n 0, 71), (71, .bipush 9, 73), (73, .newarray .int, 75), (75, .putfield 35, 78), (78, .aload_n 0, 79), (79, .iconst 4, 80), (80, .newarray .int, 82), (82, .putfield 38, 85), (85, .return_, 86)])
set_option maxRecDepth 20000 in
theorem mk_M_init : MkX X_M_init := ⟨by unfold TBk; decide +kernel, by decide +kernel, wb_523, ⟨by decide, by decide⟩, wb_6⟩
def wT_M (z : Zc) (h0 : Nat) (u : Nat → Nat) : va_W := [(h0, .inr (5, [.int 0, .ref (u 0), .ref (u 1), .ref (u 2), .int 0, .ref (u 3), .ref (u 4), .ref (u 5), .ref (u 6), .ref (u 7), .ref (u 8), .ref (u 9)])), ((u 0), .inl (z.1, 48, .inl (fun _ => 0))), ((u 1), .inl (z.1, 6, .inl (fun _ => 0))), ((u 2), .inl (z.1, 6, .inl (fun _ => 0))), ((u 3), .inl (z.1, 4, .inl (fun _ => 0))), ((u 4), .inl (z.2.1, 2461, .inr (.inl (fun _ => 0)))), ((u 5), .inl (z.2.1, 2461, .inr (.inl (fun _ => 0)))), ((u 6), .inl (z.2.1, 2461, .inr (.inl (fun _ => 0)))), ((u 7), .inl (z.1, 9, .inl (fun _ => 0))), ((u 8), .inl (z.1, 9, .inl (fun _ => 0))), ((u 9), .inl (z.1, 4, .inl (fun _ => 0)))]
set_option maxHeartbeats 4000000 in
set_option maxRecDepth 20000 in
theorem k_M_init (l : Launch) (D : va_G) (z : Zc) (h0 : Nat) : EvK l X_M_init D z h0 (.inr (5, [.int 0, .null, .null, .null, .int 0, .null, .null, .null, .null, .null, .null, .null])) (fun ws => ∃ u : Nat → Nat, ws = wT_M z h0 u) := by
  refine EvK.of mk_M_init (by decide) ?_
  intro A p e s m args below meth c C hr hlk
  refine k_aload0 C 0 rfl 0 rfl rfl ?_
  refine k_objinit C 1 rfl wb_524 (Nat.le_of_ble_eq_true rfl) (Nat.le_of_ble_eq_true rfl) ?_
  refine k_aload0 C 2 rfl 0 rfl rfl ?_
  refine k_bipush C 48 3 rfl (by decide) ?_
  refine k_newi C 48 4 rfl (by decide) (by decide) (by decide) (1, 48) rfl (by decide) (fun q1 => ?_)
  refine k_put C (ci := 5) 0 1 tf_M (.array .int) 5 rfl rfl uw_M tf_M_ok nf_M rfl (by decide) wb_526 rfl rfl (by decide +kernel) rfl rfl (Nat.le_of_ble_eq_true rfl) [(h0, .inr (5, [.int 0, .ref q1, .null, .null, .int 0, .null, .null, .null, .null, .null, .null, .null])), (q1, .inl (z.1, 48, .inl (fun _ => 0)))] rfl ?_
  refine k_aload0 C 6 rfl 0 rfl rfl ?_
  refine k_bipush C 6 7 rfl (by decide) ?_
  refine k_newi C 6 8 rfl (by decide) (by decide) (by decide) (2, 54) rfl (by decide) (fun q2 => ?_)
  refine k_put C (ci := 5) 0 2 tf_M (.array .int) 9 rfl rfl uw_M tf_M_ok nf_M rfl (by decide) wb_527 rfl rfl (by decide +kernel) rfl rfl (Nat.le_of_ble_eq_true rfl) [(h0, .inr (5, [.int 0, .ref q1, .ref q2, .null, .int 0, .null, .null, .null, .null, .null, .null, .null])), (q1, .inl (z.1, 48, .inl (fun _ => 0))), (q2, .inl (z.1, 6, .inl (fun _ => 0)))] rfl ?_
  refine k_aload0 C 10 rfl 0 rfl rfl ?_
  refine k_bipush C 6 11 rfl (by decide) ?_
  refine k_newi C 6 12 rfl (by decide) (by decide) (by decide) (3, 60) rfl (by decide) (fun q3 => ?_)
  refine k_put C (ci := 5) 0 3 tf_M (.array .int) 13 rfl rfl uw_M tf_M_ok nf_M rfl (by decide) wb_528 rfl rfl (by decide +kernel) rfl rfl (Nat.le_of_ble_eq_true rfl) [(h0, .inr (5, [.int 0, .ref q1, .ref q2, .ref q3, .int 0, .null, .null, .null, .null, .null, .null, .null])), (q1, .inl (z.1, 48, .inl (fun _ => 0))), (q2, .inl (z.1, 6, .inl (fun _ => 0))), (q3, .inl (z.1, 6, .inl (fun _ => 0)))] rfl ?_
  refine k_aload0 C 14 rfl 0 rfl rfl ?_
  refine k_iconst C 4 15 rfl (by decide) ?_
  refine k_newi C 4 16 rfl (by decide) (by decide) (by decide) (4, 64) rfl (by decide) (fun q4 => ?_)
  refine k_put C (ci := 5) 0 5 tf_M (.array .int) 17 rfl rfl uw_M tf_M_ok nf_M rfl (by decide) wb_530 rfl rfl (by decide +kernel) rfl rfl (Nat.le_of_ble_eq_true rfl) [(h0, .inr (5, [.int 0, .ref q1, .ref q2, .ref q3, .int 0, .ref q4, .null, .null, .null, .null, .null, .null])), (q1, .inl (z.1, 48, .inl (fun _ => 0))), (q2, .inl (z.1, 6, .inl (fun _ => 0))), (q3, .inl (z.1, 6, .inl (fun _ => 0))), (q4, .inl (z.1, 4, .inl (fun _ => 0)))] rfl ?_
  refine k_aload0 C 18 rfl 0 rfl rfl ?_
  refine k_sipush C 2461 19 rfl (by decide) ?_
  refine k_newl C 2461 20 rfl (by decide) (by decide) (by decide) (5, 2525) rfl (by decide) (fun q5 => ?_)
  refine k_put C (ci := 5) 0 6 tf_M (.array .long) 21 rfl rfl uw_M tf_M_ok nf_M rfl (by decide) wb_531 rfl rfl (by decide +kernel) rfl rfl (Nat.le_of_ble_eq_true rfl) [(h0, .inr (5, [.int 0, .ref q1, .ref q2, .ref q3, .int 0, .ref q4, .ref q5, .null, .null, .null, .null, .null])), (q1, .inl (z.1, 48, .inl (fun _ => 0))), (q2, .inl (z.1, 6, .inl (fun _ => 0))), (q3, .inl (z.1, 6, .inl (fun _ => 0))), (q4, .inl (z.1, 4, .inl (fun _ => 0))), (q5, .inl (z.2.1, 2461, .inr (.inl (fun _ => 0))))] rfl ?_
  refine k_aload0 C 22 rfl 0 rfl rfl ?_
  refine k_sipush C 2461 23 rfl (by decide) ?_
  refine k_newl C 2461 24 rfl (by decide) (by decide) (by decide) (6, 4986) rfl (by decide) (fun q6 => ?_)
  refine k_put C (ci := 5) 0 7 tf_M (.array .long) 25 rfl rfl uw_M tf_M_ok nf_M rfl (by decide) wb_532 rfl rfl (by decide +kernel) rfl rfl (Nat.le_of_ble_eq_true rfl) [(h0, .inr (5, [.int 0, .ref q1, .ref q2, .ref q3, .int 0, .ref q4, .ref q5, .ref q6, .null, .null, .null, .null])), (q1, .inl (z.1, 48, .inl (fun _ => 0))), (q2, .inl (z.1, 6, .inl (fun _ => 0))), (q3, .inl (z.1, 6, .inl (fun _ => 0))), (q4, .inl (z.1, 4, .inl (fun _ => 0))), (q5, .inl (z.2.1, 2461, .inr (.inl (fun _ => 0)))), (q6, .inl (z.2.1, 2461, .inr (.inl (fun _ => 0))))] rfl ?_
  refine k_aload0 C 26 rfl 0 rfl rfl ?_
  refine k_sipush C 2461 27 rfl (by decide) ?_
  refine k_newl C 2461 28 rfl (by decide) (by decide) (by decide) (7, 7447) rfl (by decide) (fun q7 => ?_)
  refine k_put C (ci := 5) 0 8 tf_M (.array .long) 29 rfl rfl uw_M tf_M_ok nf_M rfl (by decide) wb_533 rfl rfl (by decide +kernel) rfl rfl (Nat.le_of_ble_eq_true rfl) [(h0, .inr (5, [.int 0, .ref q1, .ref q2, .ref q3, .int 0, .ref q4, .ref q5, .ref q6, .ref q7, .null, .null, .null])), (q1, .inl (z.1, 48, .inl (fun _ => 0))), (q2, .inl (z.1, 6, .inl (fun _ => 0))), (q3, .inl (z.1, 6, .inl (fun _ => 0))), (q4, .inl (z.1, 4, .inl (fun _ => 0))), (q5, .inl (z.2.1, 2461, .inr (.inl (fun _ => 0)))), (q6, .inl (z.2.1, 2461, .inr (.inl (fun _ => 0)))), (q7, .inl (z.2.1, 2461, .inr (.inl (fun _ => 0))))] rfl ?_
  refine k_aload0 C 30 rfl 0 rfl rfl ?_
  refine k_bipush C 9 31 rfl (by decide) ?_
  refine k_newi C 9 32 rfl (by decide) (by decide) (by decide) (8, 7456) rfl (by decide) (fun q8 => ?_)
  refine k_put C (ci := 5) 0 9 tf_M (.array .int) 33 rfl rfl uw_M tf_M_ok nf_M rfl (by decide) wb_534 rfl rfl (by decide +kernel) rfl rfl (Nat.le_of_ble_eq_true rfl) [(h0, .inr (5, [.int 0, .ref q1, .ref q2, .ref q3, .int 0, .ref q4, .ref q5, .ref q6, .ref q7, .ref q8, .null, .null])), (q1, .inl (z.1, 48, .inl (fun _ => 0))), (q2, .inl (z.1, 6, .inl (fun _ => 0))), (q3, .inl (z.1, 6, .inl (fun _ => 0))), (q4, .inl (z.1, 4, .inl (fun _ => 0))), (q5, .inl (z.2.1, 2461, .inr (.inl (fun _ => 0)))), (q6, .inl (z.2.1, 2461, .inr (.inl (fun _ => 0)))), (q7, .inl (z.2.1, 2461, .inr (.inl (fun _ => 0)))), (q8, .inl (z.1, 9, .inl (fun _ => 0)))] rfl ?_
  refine k_aload0 C 34 rfl 0 rfl rfl ?_
  refine k_bipush C 9 35 rfl (by decide) ?_
  refine k_newi C 9 36 rfl (by decide) (by decide) (by decide) (9, 7465) rfl (by decide) (fun q9 => ?_)
  refine k_put C (ci := 5) 0 10 tf_M (.array .int) 37 rfl rfl uw_M tf_M_ok nf_M rfl (by decide) wb_535 rfl rfl (by decide +kernel) rfl rfl (Nat.le_of_ble_eq_true rfl) [(h0, .inr (5, [.int 0, .ref q1, .ref q2, .ref q3, .int 0, .ref q4, .ref q5, .ref q6, .ref q7, .ref q8, .ref q9, .null])), (q1, .inl (z.1, 48, .inl (fun _ => 0))), (q2, .inl (z.1, 6, .inl (fun _ => 0))), (q3, .inl (z.1, 6, .inl (fun _ => 0))), (q4, .inl (z.1, 4, .inl (fun _ => 0))), (q5, .inl (z.2.1, 2461, .inr (.inl (fun _ => 0)))), (q6, .inl (z.2.1, 2461, .inr (.inl (fun _ => 0)))), (q7, .inl (z.2.1, 2461, .inr (.inl (fun _ => 0)))), (q8, .inl (z.1, 9, .inl (fun _ => 0))), (q9, .inl (z.1, 9, .inl (fun _ => 0)))] rfl ?_
  refine k_aload0 C 38 rfl 0 rfl rfl ?_
  refine k_iconst C 4 39 rfl (by decide) ?_
  refine k_newi C 4 40 rfl (by decide) (by decide) (by decide) (10, 7469) rfl (by decide) (fun q10 => ?_)
  refine k_put C (ci := 5) 0 11 tf_M (.array .int) 41 rfl rfl uw_M tf_M_ok nf_M rfl (by decide) wb_536 rfl rfl (by decide +kernel) rfl rfl (Nat.le_of_ble_eq_true rfl) [(h0, .inr (5, [.int 0, .ref q1, .ref q2, .ref q3, .int 0, .ref q4, .ref q5, .ref q6, .ref q7, .ref q8, .ref q9, .ref q10])), (q1, .inl (z.1, 48, .inl (fun _ => 0))), (q2, .inl (z.1, 6, .inl (fun _ => 0))), (q3, .inl (z.1, 6, .inl (fun _ => 0))), (q4, .inl (z.1, 4, .inl (fun _ => 0))), (q5, .inl (z.2.1, 2461, .inr (.inl (fun _ => 0)))), (q6, .inl (z.2.1, 2461, .inr (.inl (fun _ => 0)))), (q7, .inl (z.2.1, 2461, .inr (.inl (fun _ => 0)))), (q8, .inl (z.1, 9, .inl (fun _ => 0))), (q9, .inl (z.1, 9, .inl (fun _ => 0))), (q10, .inl (z.1, 4, .inl (fun _ => 0)))] rfl ?_
  exact k_ret C 42 rfl hr hlk ⟨fun i => [q1, q2, q3, q4, q5, q6, q7, q8, q9, q10].getD i 0, rfl⟩
def X_F_init : MX := (⟨"OmegaDesk$LassoFinder", "<init>", "()V"⟩, prog_3_method_1_code, 1, none, { frames := 2, cells := 6, slots := 2052, locals := 60 },
  [(0, .aload_n 0, 1), (1, .invokespecial 3, 4), (4, .aload_n 0, 5), (5, .new 9, 8), (8, .dup, 9), (9, .invokespecial 11, 12), (12, .putfield 12, 15), (15, .aload_n 0, 16), (16, .new 9, 19), (19, .dup, 20), (20, .invokespecial 11, 23), (23, .putfield 18, 26), (26, .aload_n 0, 27), (27, .iconst 0, 28), (28, .putfield 21, 31), (31, .aload_n 0, 32), (32, .iconst 0, 33), (33, .putfield 25, 36), (36, .aload_n 0, 37), (37, .iconst 0, 38), (38, .putfield 29, 41), (41, .aload_n 0, 42), (42, .iconst 0, 43), (43, .putfield 32, 46), (46, .aload_n 0, 47), (47, .iconst 0, 48), (48, .putfield 35, 51), (51, .return_, 52)])
set_option maxRecDepth 20000 in
theorem mk_F_init : MkX X_F_init := ⟨by unfold TBk; decide +kernel, by decide +kernel, wb_79, ⟨by decide, by decide⟩, wb_4⟩
def wT_F (z : Zc) (h0 : Nat) (u : Nat → Nat) : va_W := [(h0, .inr (3, [.ref (u 0), .ref (u 3), .int 0, .int 0, .int 0, .int 0, .int 0])), ((u 0), .inr (4, [.ref (u 1), .ref (u 2)])), ((u 1), .inl (z.1, 512, .inl (fun _ => 0))), ((u 2), .inl (z.1, 512, .inl (fun _ => 0))), ((u 3), .inr (4, [.ref (u 4), .ref (u 5)])), ((u 4), .inl (z.1, 512, .inl (fun _ => 0))), ((u 5), .inl (z.1, 512, .inl (fun _ => 0)))]
set_option maxHeartbeats 4000000 in
set_option maxRecDepth 20000 in
theorem k_F_init (l : Launch) (D : va_G) (z : Zc) (h0 : Nat) : EvK l X_F_init D z h0 (.inr (3, [.null, .null, .int 0, .int 0, .int 0, .int 0, .int 0])) (fun ws => ∃ u : Nat → Nat, ws = wT_F z h0 u) := by
  refine EvK.of mk_F_init (by decide) ?_
  intro A p e s m args below meth c C hr hlk
  refine k_aload0 C 0 rfl 0 rfl rfl ?_
  refine k_objinit C 1 rfl wb_80 (Nat.le_of_ble_eq_true rfl) (Nat.le_of_ble_eq_true rfl) ?_
  refine k_aload0 C 2 rfl 0 rfl rfl ?_
  refine k_new C (ci := 4) [.null, .null] tf_T 3 rfl uw_T tf_T_ok wb_81 wb_82 wb_5 rfl (fun j hj => by rcases (show j = 0 ∨ j = 1 by omega) with rfl | rfl <;> rfl) (1, 2) rfl (by decide) (fun q1 => ?_)
  refine k_dup C 4 rfl ?_
  refine k_callI C 1 [0] [(h0, .inr (3, [.null, .null, .int 0, .int 0, .int 0, .int 0, .int 0]))] 5 rfl (k_T_init l D z q1) mk_T_init (Or.inr ⟨_, nw_83⟩) rfl rfl wb_84 (by decide +kernel) ⟨(Nat.le_of_ble_eq_true rfl), (Nat.le_of_ble_eq_true rfl)⟩ (Nat.le_of_ble_eq_true rfl) rfl rfl (by decide) (by decide) (3, 1026) rfl (by decide) (fun w1 hw1 => ?_)
  obtain ⟨u2, rfl⟩ := hw1
  refine k_put C (ci := 3) 0 0 tf_F (.object "OmegaDesk$WordTable") 6 rfl rfl uw_F tf_F_ok nf_F rfl (by decide) wb_94 rfl rfl (by decide +kernel) rfl rfl (Nat.le_of_ble_eq_true rfl) [(h0, .inr (3, [.ref q1, .null, .int 0, .int 0, .int 0, .int 0, .int 0])), (q1, .inr (4, [.ref (u2 0), .ref (u2 1)])), ((u2 0), .inl (z.1, 512, .inl (fun _ => 0))), ((u2 1), .inl (z.1, 512, .inl (fun _ => 0)))] rfl ?_
  refine k_aload0 C 7 rfl 0 rfl rfl ?_
  refine k_new C (ci := 4) [.null, .null] tf_T 8 rfl uw_T tf_T_ok wb_81 wb_82 wb_5 rfl (fun j hj => by rcases (show j = 0 ∨ j = 1 by omega) with rfl | rfl <;> rfl) (4, 1028) rfl (by decide) (fun q3 => ?_)
  refine k_dup C 9 rfl ?_
  refine k_callI C 4 [0, 1, 2, 3] [(h0, .inr (3, [.ref q1, .null, .int 0, .int 0, .int 0, .int 0, .int 0])), (q1, .inr (4, [.ref (u2 0), .ref (u2 1)])), ((u2 0), .inl (z.1, 512, .inl (fun _ => 0))), ((u2 1), .inl (z.1, 512, .inl (fun _ => 0)))] 10 rfl (k_T_init l D z q3) mk_T_init (Or.inr ⟨_, nw_83⟩) rfl rfl wb_84 (by decide +kernel) ⟨(Nat.le_of_ble_eq_true rfl), (Nat.le_of_ble_eq_true rfl)⟩ (Nat.le_of_ble_eq_true rfl) rfl rfl (by decide) (by decide) (6, 2052) rfl (by decide) (fun w1 hw1 => ?_)
  obtain ⟨u4, rfl⟩ := hw1
  refine k_put C (ci := 3) 0 1 tf_F (.object "OmegaDesk$WordTable") 11 rfl rfl uw_F tf_F_ok nf_F rfl (by decide) wb_95 rfl rfl (by decide +kernel) rfl rfl (Nat.le_of_ble_eq_true rfl) [(h0, .inr (3, [.ref q1, .ref q3, .int 0, .int 0, .int 0, .int 0, .int 0])), (q1, .inr (4, [.ref (u2 0), .ref (u2 1)])), ((u2 0), .inl (z.1, 512, .inl (fun _ => 0))), ((u2 1), .inl (z.1, 512, .inl (fun _ => 0))), (q3, .inr (4, [.ref (u4 0), .ref (u4 1)])), ((u4 0), .inl (z.1, 512, .inl (fun _ => 0))), ((u4 1), .inl (z.1, 512, .inl (fun _ => 0)))] rfl ?_
  refine k_aload0 C 12 rfl 0 rfl rfl ?_
  refine k_iconst C 0 13 rfl (by decide) ?_
  refine k_put C (ci := 3) 0 2 tf_F (.boolean) 14 rfl rfl uw_F tf_F_ok nf_F rfl (by decide) wb_96 rfl rfl (by decide +kernel) rfl rfl (Nat.le_of_ble_eq_true rfl) [(h0, .inr (3, [.ref q1, .ref q3, .int 0, .int 0, .int 0, .int 0, .int 0])), (q1, .inr (4, [.ref (u2 0), .ref (u2 1)])), ((u2 0), .inl (z.1, 512, .inl (fun _ => 0))), ((u2 1), .inl (z.1, 512, .inl (fun _ => 0))), (q3, .inr (4, [.ref (u4 0), .ref (u4 1)])), ((u4 0), .inl (z.1, 512, .inl (fun _ => 0))), ((u4 1), .inl (z.1, 512, .inl (fun _ => 0)))] rfl ?_
  refine k_aload0 C 15 rfl 0 rfl rfl ?_
  refine k_iconst C 0 16 rfl (by decide) ?_
  refine k_put C (ci := 3) 0 3 tf_F (.int) 17 rfl rfl uw_F tf_F_ok nf_F rfl (by decide) wb_98 rfl rfl (by decide +kernel) rfl rfl (Nat.le_of_ble_eq_true rfl) [(h0, .inr (3, [.ref q1, .ref q3, .int 0, .int 0, .int 0, .int 0, .int 0])), (q1, .inr (4, [.ref (u2 0), .ref (u2 1)])), ((u2 0), .inl (z.1, 512, .inl (fun _ => 0))), ((u2 1), .inl (z.1, 512, .inl (fun _ => 0))), (q3, .inr (4, [.ref (u4 0), .ref (u4 1)])), ((u4 0), .inl (z.1, 512, .inl (fun _ => 0))), ((u4 1), .inl (z.1, 512, .inl (fun _ => 0)))] rfl ?_
  refine k_aload0 C 18 rfl 0 rfl rfl ?_
  refine k_iconst C 0 19 rfl (by decide) ?_
  refine k_put C (ci := 3) 0 4 tf_F (.int) 20 rfl rfl uw_F tf_F_ok nf_F rfl (by decide) wb_100 rfl rfl (by decide +kernel) rfl rfl (Nat.le_of_ble_eq_true rfl) [(h0, .inr (3, [.ref q1, .ref q3, .int 0, .int 0, .int 0, .int 0, .int 0])), (q1, .inr (4, [.ref (u2 0), .ref (u2 1)])), ((u2 0), .inl (z.1, 512, .inl (fun _ => 0))), ((u2 1), .inl (z.1, 512, .inl (fun _ => 0))), (q3, .inr (4, [.ref (u4 0), .ref (u4 1)])), ((u4 0), .inl (z.1, 512, .inl (fun _ => 0))), ((u4 1), .inl (z.1, 512, .inl (fun _ => 0)))] rfl ?_
  refine k_aload0 C 21 rfl 0 rfl rfl ?_
  refine k_iconst C 0 22 rfl (by decide) ?_
  refine k_put C (ci := 3) 0 5 tf_F (.int) 23 rfl rfl uw_F tf_F_ok nf_F rfl (by decide) wb_102 rfl rfl (by decide +kernel) rfl rfl (Nat.le_of_ble_eq_true rfl) [(h0, .inr (3, [.ref q1, .ref q3, .int 0, .int 0, .int 0, .int 0, .int 0])), (q1, .inr (4, [.ref (u2 0), .ref (u2 1)])), ((u2 0), .inl (z.1, 512, .inl (fun _ => 0))), ((u2 1), .inl (z.1, 512, .inl (fun _ => 0))), (q3, .inr (4, [.ref (u4 0), .ref (u4 1)])), ((u4 0), .inl (z.1, 512, .inl (fun _ => 0))), ((u4 1), .inl (z.1, 512, .inl (fun _ => 0)))] rfl ?_
  refine k_aload0 C 24 rfl 0 rfl rfl ?_
  refine k_iconst C 0 25 rfl (by decide) ?_
  refine k_put C (ci := 3) 0 6 tf_F (.int) 26 rfl rfl uw_F tf_F_ok nf_F rfl (by decide) wb_104 rfl rfl (by decide +kernel) rfl rfl (Nat.le_of_ble_eq_true rfl) [(h0, .inr (3, [.ref q1, .ref q3, .int 0, .int 0, .int 0, .int 0, .int 0])), (q1, .inr (4, [.ref (u2 0), .ref (u2 1)])), ((u2 0), .inl (z.1, 512, .inl (fun _ => 0))), ((u2 1), .inl (z.1, 512, .inl (fun _ => 0))), (q3, .inr (4, [.ref (u4 0), .ref (u4 1)])), ((u4 0), .inl (z.1, 512, .inl (fun _ => 0))), ((u4 1), .inl (z.1, 512, .inl (fun _ => 0)))] rfl ?_
  exact k_ret C 27 rfl hr hlk ⟨fun i => [q1, (u2 0), (u2 1), q3, (u4 0), (u4 1)].getD i 0, rfl⟩
def X_D_init : MX := (⟨"OmegaDesk", "<init>", "()V"⟩, prog_1_method_1_code, 2, none, { frames := 3, cells := 28, slots := 6417, locals := 100 },
  [(0, .aload_n 0, 1), (1, .invokespecial 1, 4), (4, .aload_n 0, 5), (5, .bipush 6, 7), (7, .anewarray 9, 10), (10, .putfield 11, 13), (13, .iconst 0, 14), (14, .istore_n 1, 15), (15, .iload_n 1, 16), (16, .bipush 6, 18), (18, .if_icmp .ge 22, 21), (21, .aload_n 0, 22), (22, .getfield 11, 25), (25, .iload_n 1, 26), (26, .new 9, 29), (29, .dup, 30), (30, .invokespecial 15, 33), (33, .aastore, 34), (34, .iinc 1 1, 37), (37, .goto (-22), 40), (40, .aload_n 0, 41), (41, .new 9, 44), (44, .dup, 45), (45, .invokespecial 15, 48), (48, .putfield 16, 51), (51, .aload_n 0, 52), (52, .new 20, 55), (55, .dup, 56), (56, .invokespecial 22, 59), (59, .putfield 23, 62), (62, .aload_n 0, 63), (63, .new 27, 66), (66, .dup, 67), (67, .invokespecial 29, 70), (70, .putfield 30, 73), (73, .return_, 74)])
set_option maxRecDepth 20000 in
theorem mk_D_init : MkX X_D_init := ⟨by unfold TBk; decide +kernel, by decide +kernel, wb_21, ⟨by decide, by decide⟩, wb_1⟩
def wT_D (z : Zc) (h0 : Nat) (u : Nat → Nat) : va_W := [(h0, .inr (1, [.ref (u 0), .ref (u 13), .ref (u 15), .ref (u 21)])), ((u 0), .inl (z.2.2, 6, .inr (.inr (.inr (.inr (va_up (va_up (va_up (va_up (va_up (va_up (fun _ => none) 0 (some (u 1))) 1 (some (u 3))) 2 (some (u 5))) 3 (some (u 7))) 4 (some (u 9))) 5 (some (u 11)))))))), ((u 1), .inr (0, [.int 0, .int 0, .ref (u 2)])), ((u 2), .inl (z.1, 32, .inl (fun _ => 0))), ((u 3), .inr (0, [.int 0, .int 0, .ref (u 4)])), ((u 4), .inl (z.1, 32, .inl (fun _ => 0))), ((u 5), .inr (0, [.int 0, .int 0, .ref (u 6)])), ((u 6), .inl (z.1, 32, .inl (fun _ => 0))), ((u 7), .inr (0, [.int 0, .int 0, .ref (u 8)])), ((u 8), .inl (z.1, 32, .inl (fun _ => 0))), ((u 9), .inr (0, [.int 0, .int 0, .ref (u 10)])), ((u 10), .inl (z.1, 32, .inl (fun _ => 0))), ((u 11), .inr (0, [.int 0, .int 0, .ref (u 12)])), ((u 12), .inl (z.1, 32, .inl (fun _ => 0))), ((u 13), .inr (0, [.int 0, .int 0, .ref (u 14)])), ((u 14), .inl (z.1, 32, .inl (fun _ => 0))), ((u 15), .inr (2, [.ref (u 16), .ref (u 17), .ref (u 18), .ref (u 19), .int 0, .int 0, .ref (u 20)])), ((u 16), .inl (z.1, 1024, .inl (fun _ => 0))), ((u 17), .inl (z.1, 1024, .inl (fun _ => 0))), ((u 18), .inl (z.1, 1024, .inl (fun _ => 0))), ((u 19), .inl (z.1, 1024, .inl (fun _ => 0))), ((u 20), .inl (z.1, 4, .inl (fun _ => 0))), ((u 21), .inr (3, [.ref (u 22), .ref (u 25), .int 0, .int 0, .int 0, .int 0, .int 0])), ((u 22), .inr (4, [.ref (u 23), .ref (u 24)])), ((u 23), .inl (z.1, 512, .inl (fun _ => 0))), ((u 24), .inl (z.1, 512, .inl (fun _ => 0))), ((u 25), .inr (4, [.ref (u 26), .ref (u 27)])), ((u 26), .inl (z.1, 512, .inl (fun _ => 0))), ((u 27), .inl (z.1, 512, .inl (fun _ => 0)))]
set_option maxHeartbeats 4000000 in
set_option maxRecDepth 20000 in
theorem k_D_init (l : Launch) (D : va_G) (z : Zc) (h0 : Nat) : EvK l X_D_init D z h0 (.inr (1, [.null, .null, .null, .null])) (fun ws => ∃ u : Nat → Nat, ws = wT_D z h0 u) := by
  refine EvK.of mk_D_init (by decide) ?_
  intro A p e s m args below meth c C hr hlk
  refine k_aload0 C 0 rfl 0 rfl rfl ?_
  refine k_objinit C 1 rfl wb_22 (Nat.le_of_ble_eq_true rfl) (Nat.le_of_ble_eq_true rfl) ?_
  refine k_aload0 C 2 rfl 0 rfl rfl ?_
  refine k_bipush C 6 3 rfl (by decide) ?_
  refine k_newq C 6 4 rfl wb_25 (by decide) (by decide) (by decide) (1, 6) rfl (by decide) (fun q1 => ?_)
  refine k_put C (ci := 1) 0 0 tf_D (.array (.object "OmegaDesk$Automaton")) 5 rfl rfl uw_D tf_D_ok nf_D rfl (by decide) wb_121 rfl rfl (by decide +kernel) rfl rfl (Nat.le_of_ble_eq_true rfl) [(h0, .inr (1, [.ref q1, .null, .null, .null])), (q1, .inl (z.2.2, 6, .inr (.inr (.inr (.inr (fun _ => none))))))] rfl ?_
  refine k_iconst C 0 6 rfl (by decide) ?_
  refine k_istore C 7 rfl rfl (Nat.le_of_ble_eq_true rfl) [(1, _), (0, _)] rfl ?_
  refine k_iload C 8 rfl 0 rfl rfl ?_
  refine k_bipush C 6 9 rfl (by decide) ?_
  refine k_icmp_ge C 40 10 rfl (by decide) (fun h => absurd h (by decide)) (fun _ => ?_)
  refine k_aload0 C 11 rfl 1 rfl rfl ?_
  refine k_get C (ci := 1) 0 0 12 rfl rfl uw_D rfl (by decide) wb_121 rfl ?_
  refine k_iload C 13 rfl 0 rfl rfl ?_
  refine k_new C (ci := 0) [.int 0, .int 0, .null] tf_A 14 rfl uw_A tf_A_ok wb_25 wb_27 wb_2 rfl (fun j hj => by rcases (show j = 0 ∨ j = 1 ∨ j = 2 by omega) with rfl | rfl | rfl <;> rfl) (2, 9) rfl (by decide) (fun q2 => ?_)
  refine k_dup C 15 rfl ?_
  refine k_callI C 2 [0, 1] [(h0, .inr (1, [.ref q1, .null, .null, .null])), (q1, .inl (z.2.2, 6, .inr (.inr (.inr (.inr (fun _ => none))))))] 16 rfl (k_A_init l D z q2) mk_A_init (Or.inr ⟨_, nw_28⟩) rfl rfl wb_29 (by decide +kernel) ⟨(Nat.le_of_ble_eq_true rfl), (Nat.le_of_ble_eq_true rfl)⟩ (Nat.le_of_ble_eq_true rfl) rfl rfl (by decide) (by decide) (3, 41) rfl (by decide) (fun w1 hw1 => ?_)
  obtain ⟨u3, rfl⟩ := hw1
  refine k_aastore C 1 2 17 rfl rfl rfl (inb_vp (by decide)) [(h0, .inr (1, [.ref q1, .null, .null, .null])), (q1, .inl (z.2.2, 6, .inr (.inr (.inr (.inr (va_up (fun _ => none) 0 (some q2))))))), (q2, .inr (0, [.int 0, .int 0, .ref (u3 0)])), ((u3 0), .inl (z.1, 32, .inl (fun _ => 0)))] rfl ?_
  refine k_iinc (v := 1) C 18 rfl 0 rfl (by decide) (Nat.le_of_ble_eq_true rfl) [(1, _), (0, _)] rfl ?_
  refine k_goto C 15 19 rfl (by decide) ?_
  refine k_iload C 8 rfl 0 rfl rfl ?_
  refine k_bipush C 6 9 rfl (by decide) ?_
  refine k_icmp_ge C 40 10 rfl (by decide) (fun h => absurd h (by decide)) (fun _ => ?_)
  refine k_aload0 C 11 rfl 1 rfl rfl ?_
  refine k_get C (ci := 1) 0 0 12 rfl rfl uw_D rfl (by decide) wb_121 rfl ?_
  refine k_iload C 13 rfl 0 rfl rfl ?_
  refine k_new C (ci := 0) [.int 0, .int 0, .null] tf_A 14 rfl uw_A tf_A_ok wb_25 wb_27 wb_2 rfl (fun j hj => by rcases (show j = 0 ∨ j = 1 ∨ j = 2 by omega) with rfl | rfl | rfl <;> rfl) (4, 44) rfl (by decide) (fun q4 => ?_)
  refine k_dup C 15 rfl ?_
  refine k_callI C 4 [0, 1, 2, 3] [(h0, .inr (1, [.ref q1, .null, .null, .null])), (q1, .inl (z.2.2, 6, .inr (.inr (.inr (.inr (va_up (fun _ => none) 0 (some q2))))))), (q2, .inr (0, [.int 0, .int 0, .ref (u3 0)])), ((u3 0), .inl (z.1, 32, .inl (fun _ => 0)))] 16 rfl (k_A_init l D z q4) mk_A_init (Or.inr ⟨_, nw_28⟩) rfl rfl wb_29 (by decide +kernel) ⟨(Nat.le_of_ble_eq_true rfl), (Nat.le_of_ble_eq_true rfl)⟩ (Nat.le_of_ble_eq_true rfl) rfl rfl (by decide) (by decide) (5, 76) rfl (by decide) (fun w1 hw1 => ?_)
  obtain ⟨u5, rfl⟩ := hw1
  refine k_aastore C 1 4 17 rfl rfl rfl (inb_vp (by decide)) [(h0, .inr (1, [.ref q1, .null, .null, .null])), (q1, .inl (z.2.2, 6, .inr (.inr (.inr (.inr (va_up (va_up (fun _ => none) 0 (some q2)) 1 (some q4))))))), (q2, .inr (0, [.int 0, .int 0, .ref (u3 0)])), ((u3 0), .inl (z.1, 32, .inl (fun _ => 0))), (q4, .inr (0, [.int 0, .int 0, .ref (u5 0)])), ((u5 0), .inl (z.1, 32, .inl (fun _ => 0)))] rfl ?_
  refine k_iinc (v := 2) C 18 rfl 0 rfl (by decide) (Nat.le_of_ble_eq_true rfl) [(1, _), (0, _)] rfl ?_
  refine k_goto C 15 19 rfl (by decide) ?_
  refine k_iload C 8 rfl 0 rfl rfl ?_
  refine k_bipush C 6 9 rfl (by decide) ?_
  refine k_icmp_ge C 40 10 rfl (by decide) (fun h => absurd h (by decide)) (fun _ => ?_)
  refine k_aload0 C 11 rfl 1 rfl rfl ?_
  refine k_get C (ci := 1) 0 0 12 rfl rfl uw_D rfl (by decide) wb_121 rfl ?_
  refine k_iload C 13 rfl 0 rfl rfl ?_
  refine k_new C (ci := 0) [.int 0, .int 0, .null] tf_A 14 rfl uw_A tf_A_ok wb_25 wb_27 wb_2 rfl (fun j hj => by rcases (show j = 0 ∨ j = 1 ∨ j = 2 by omega) with rfl | rfl | rfl <;> rfl) (6, 79) rfl (by decide) (fun q6 => ?_)
  refine k_dup C 15 rfl ?_
  refine k_callI C 6 [0, 1, 2, 3, 4, 5] [(h0, .inr (1, [.ref q1, .null, .null, .null])), (q1, .inl (z.2.2, 6, .inr (.inr (.inr (.inr (va_up (va_up (fun _ => none) 0 (some q2)) 1 (some q4))))))), (q2, .inr (0, [.int 0, .int 0, .ref (u3 0)])), ((u3 0), .inl (z.1, 32, .inl (fun _ => 0))), (q4, .inr (0, [.int 0, .int 0, .ref (u5 0)])), ((u5 0), .inl (z.1, 32, .inl (fun _ => 0)))] 16 rfl (k_A_init l D z q6) mk_A_init (Or.inr ⟨_, nw_28⟩) rfl rfl wb_29 (by decide +kernel) ⟨(Nat.le_of_ble_eq_true rfl), (Nat.le_of_ble_eq_true rfl)⟩ (Nat.le_of_ble_eq_true rfl) rfl rfl (by decide) (by decide) (7, 111) rfl (by decide) (fun w1 hw1 => ?_)
  obtain ⟨u7, rfl⟩ := hw1
  refine k_aastore C 1 6 17 rfl rfl rfl (inb_vp (by decide)) [(h0, .inr (1, [.ref q1, .null, .null, .null])), (q1, .inl (z.2.2, 6, .inr (.inr (.inr (.inr (va_up (va_up (va_up (fun _ => none) 0 (some q2)) 1 (some q4)) 2 (some q6))))))), (q2, .inr (0, [.int 0, .int 0, .ref (u3 0)])), ((u3 0), .inl (z.1, 32, .inl (fun _ => 0))), (q4, .inr (0, [.int 0, .int 0, .ref (u5 0)])), ((u5 0), .inl (z.1, 32, .inl (fun _ => 0))), (q6, .inr (0, [.int 0, .int 0, .ref (u7 0)])), ((u7 0), .inl (z.1, 32, .inl (fun _ => 0)))] rfl ?_
  refine k_iinc (v := 3) C 18 rfl 0 rfl (by decide) (Nat.le_of_ble_eq_true rfl) [(1, _), (0, _)] rfl ?_
  refine k_goto C 15 19 rfl (by decide) ?_
  refine k_iload C 8 rfl 0 rfl rfl ?_
  refine k_bipush C 6 9 rfl (by decide) ?_
  refine k_icmp_ge C 40 10 rfl (by decide) (fun h => absurd h (by decide)) (fun _ => ?_)
  refine k_aload0 C 11 rfl 1 rfl rfl ?_
  refine k_get C (ci := 1) 0 0 12 rfl rfl uw_D rfl (by decide) wb_121 rfl ?_
  refine k_iload C 13 rfl 0 rfl rfl ?_
  refine k_new C (ci := 0) [.int 0, .int 0, .null] tf_A 14 rfl uw_A tf_A_ok wb_25 wb_27 wb_2 rfl (fun j hj => by rcases (show j = 0 ∨ j = 1 ∨ j = 2 by omega) with rfl | rfl | rfl <;> rfl) (8, 114) rfl (by decide) (fun q8 => ?_)
  refine k_dup C 15 rfl ?_
  refine k_callI C 8 [0, 1, 2, 3, 4, 5, 6, 7] [(h0, .inr (1, [.ref q1, .null, .null, .null])), (q1, .inl (z.2.2, 6, .inr (.inr (.inr (.inr (va_up (va_up (va_up (fun _ => none) 0 (some q2)) 1 (some q4)) 2 (some q6))))))), (q2, .inr (0, [.int 0, .int 0, .ref (u3 0)])), ((u3 0), .inl (z.1, 32, .inl (fun _ => 0))), (q4, .inr (0, [.int 0, .int 0, .ref (u5 0)])), ((u5 0), .inl (z.1, 32, .inl (fun _ => 0))), (q6, .inr (0, [.int 0, .int 0, .ref (u7 0)])), ((u7 0), .inl (z.1, 32, .inl (fun _ => 0)))] 16 rfl (k_A_init l D z q8) mk_A_init (Or.inr ⟨_, nw_28⟩) rfl rfl wb_29 (by decide +kernel) ⟨(Nat.le_of_ble_eq_true rfl), (Nat.le_of_ble_eq_true rfl)⟩ (Nat.le_of_ble_eq_true rfl) rfl rfl (by decide) (by decide) (9, 146) rfl (by decide) (fun w1 hw1 => ?_)
  obtain ⟨u9, rfl⟩ := hw1
  refine k_aastore C 1 8 17 rfl rfl rfl (inb_vp (by decide)) [(h0, .inr (1, [.ref q1, .null, .null, .null])), (q1, .inl (z.2.2, 6, .inr (.inr (.inr (.inr (va_up (va_up (va_up (va_up (fun _ => none) 0 (some q2)) 1 (some q4)) 2 (some q6)) 3 (some q8))))))), (q2, .inr (0, [.int 0, .int 0, .ref (u3 0)])), ((u3 0), .inl (z.1, 32, .inl (fun _ => 0))), (q4, .inr (0, [.int 0, .int 0, .ref (u5 0)])), ((u5 0), .inl (z.1, 32, .inl (fun _ => 0))), (q6, .inr (0, [.int 0, .int 0, .ref (u7 0)])), ((u7 0), .inl (z.1, 32, .inl (fun _ => 0))), (q8, .inr (0, [.int 0, .int 0, .ref (u9 0)])), ((u9 0), .inl (z.1, 32, .inl (fun _ => 0)))] rfl ?_
  refine k_iinc (v := 4) C 18 rfl 0 rfl (by decide) (Nat.le_of_ble_eq_true rfl) [(1, _), (0, _)] rfl ?_
  refine k_goto C 15 19 rfl (by decide) ?_
  refine k_iload C 8 rfl 0 rfl rfl ?_
  refine k_bipush C 6 9 rfl (by decide) ?_
  refine k_icmp_ge C 40 10 rfl (by decide) (fun h => absurd h (by decide)) (fun _ => ?_)
  refine k_aload0 C 11 rfl 1 rfl rfl ?_
  refine k_get C (ci := 1) 0 0 12 rfl rfl uw_D rfl (by decide) wb_121 rfl ?_
  refine k_iload C 13 rfl 0 rfl rfl ?_
  refine k_new C (ci := 0) [.int 0, .int 0, .null] tf_A 14 rfl uw_A tf_A_ok wb_25 wb_27 wb_2 rfl (fun j hj => by rcases (show j = 0 ∨ j = 1 ∨ j = 2 by omega) with rfl | rfl | rfl <;> rfl) (10, 149) rfl (by decide) (fun q10 => ?_)
  refine k_dup C 15 rfl ?_
  refine k_callI C 10 [0, 1, 2, 3, 4, 5, 6, 7, 8, 9] [(h0, .inr (1, [.ref q1, .null, .null, .null])), (q1, .inl (z.2.2, 6, .inr (.inr (.inr (.inr (va_up (va_up (va_up (va_up (fun _ => none) 0 (some q2)) 1 (some q4)) 2 (some q6)) 3 (some q8))))))), (q2, .inr (0, [.int 0, .int 0, .ref (u3 0)])), ((u3 0), .inl (z.1, 32, .inl (fun _ => 0))), (q4, .inr (0, [.int 0, .int 0, .ref (u5 0)])), ((u5 0), .inl (z.1, 32, .inl (fun _ => 0))), (q6, .inr (0, [.int 0, .int 0, .ref (u7 0)])), ((u7 0), .inl (z.1, 32, .inl (fun _ => 0))), (q8, .inr (0, [.int 0, .int 0, .ref (u9 0)])), ((u9 0), .inl (z.1, 32, .inl (fun _ => 0)))] 16 rfl (k_A_init l D z q10) mk_A_init (Or.inr ⟨_, nw_28⟩) rfl rfl wb_29 (by decide +kernel) ⟨(Nat.le_of_ble_eq_true rfl), (Nat.le_of_ble_eq_true rfl)⟩ (Nat.le_of_ble_eq_true rfl) rfl rfl (by decide) (by decide) (11, 181) rfl (by decide) (fun w1 hw1 => ?_)
  obtain ⟨u11, rfl⟩ := hw1
  refine k_aastore C 1 10 17 rfl rfl rfl (inb_vp (by decide)) [(h0, .inr (1, [.ref q1, .null, .null, .null])), (q1, .inl (z.2.2, 6, .inr (.inr (.inr (.inr (va_up (va_up (va_up (va_up (va_up (fun _ => none) 0 (some q2)) 1 (some q4)) 2 (some q6)) 3 (some q8)) 4 (some q10))))))), (q2, .inr (0, [.int 0, .int 0, .ref (u3 0)])), ((u3 0), .inl (z.1, 32, .inl (fun _ => 0))), (q4, .inr (0, [.int 0, .int 0, .ref (u5 0)])), ((u5 0), .inl (z.1, 32, .inl (fun _ => 0))), (q6, .inr (0, [.int 0, .int 0, .ref (u7 0)])), ((u7 0), .inl (z.1, 32, .inl (fun _ => 0))), (q8, .inr (0, [.int 0, .int 0, .ref (u9 0)])), ((u9 0), .inl (z.1, 32, .inl (fun _ => 0))), (q10, .inr (0, [.int 0, .int 0, .ref (u11 0)])), ((u11 0), .inl (z.1, 32, .inl (fun _ => 0)))] rfl ?_
  refine k_iinc (v := 5) C 18 rfl 0 rfl (by decide) (Nat.le_of_ble_eq_true rfl) [(1, _), (0, _)] rfl ?_
  refine k_goto C 15 19 rfl (by decide) ?_
  refine k_iload C 8 rfl 0 rfl rfl ?_
  refine k_bipush C 6 9 rfl (by decide) ?_
  refine k_icmp_ge C 40 10 rfl (by decide) (fun h => absurd h (by decide)) (fun _ => ?_)
  refine k_aload0 C 11 rfl 1 rfl rfl ?_
  refine k_get C (ci := 1) 0 0 12 rfl rfl uw_D rfl (by decide) wb_121 rfl ?_
  refine k_iload C 13 rfl 0 rfl rfl ?_
  refine k_new C (ci := 0) [.int 0, .int 0, .null] tf_A 14 rfl uw_A tf_A_ok wb_25 wb_27 wb_2 rfl (fun j hj => by rcases (show j = 0 ∨ j = 1 ∨ j = 2 by omega) with rfl | rfl | rfl <;> rfl) (12, 184) rfl (by decide) (fun q12 => ?_)
  refine k_dup C 15 rfl ?_
  refine k_callI C 12 [0, 1, 2, 3, 4, 5, 6, 7, 8, 9, 10, 11] [(h0, .inr (1, [.ref q1, .null, .null, .null])), (q1, .inl (z.2.2, 6, .inr (.inr (.inr (.inr (va_up (va_up (va_up (va_up (va_up (fun _ => none) 0 (some q2)) 1 (some q4)) 2 (some q6)) 3 (some q8)) 4 (some q10))))))), (q2, .inr (0, [.int 0, .int 0, .ref (u3 0)])), ((u3 0), .inl (z.1, 32, .inl (fun _ => 0))), (q4, .inr (0, [.int 0, .int 0, .ref (u5 0)])), ((u5 0), .inl (z.1, 32, .inl (fun _ => 0))), (q6, .inr (0, [.int 0, .int 0, .ref (u7 0)])), ((u7 0), .inl (z.1, 32, .inl (fun _ => 0))), (q8, .inr (0, [.int 0, .int 0, .ref (u9 0)])), ((u9 0), .inl (z.1, 32, .inl (fun _ => 0))), (q10, .inr (0, [.int 0, .int 0, .ref (u11 0)])), ((u11 0), .inl (z.1, 32, .inl (fun _ => 0)))] 16 rfl (k_A_init l D z q12) mk_A_init (Or.inr ⟨_, nw_28⟩) rfl rfl wb_29 (by decide +kernel) ⟨(Nat.le_of_ble_eq_true rfl), (Nat.le_of_ble_eq_true rfl)⟩ (Nat.le_of_ble_eq_true rfl) rfl rfl (by decide) (by decide) (13, 216) rfl (by decide) (fun w1 hw1 => ?_)
  obtain ⟨u13, rfl⟩ := hw1
  refine k_aastore C 1 12 17 rfl rfl rfl (inb_vp (by decide)) [(h0, .inr (1, [.ref q1, .null, .null, .null])), (q1, .inl (z.2.2, 6, .inr (.inr (.inr (.inr (va_up (va_up (va_up (va_up (va_up (va_up (fun _ => none) 0 (some q2)) 1 (some q4)) 2 (some q6)) 3 (some q8)) 4 (some q10)) 5 (some q12))))))), (q2, .inr (0, [.int 0, .int 0, .ref (u3 0)])), ((u3 0), .inl (z.1, 32, .inl (fun _ => 0))), (q4, .inr (0, [.int 0, .int 0, .ref (u5 0)])), ((u5 0), .inl (z.1, 32, .inl (fun _ => 0))), (q6, .inr (0, [.int 0, .int 0, .ref (u7 0)])), ((u7 0), .inl (z.1, 32, .inl (fun _ => 0))), (q8, .inr (0, [.int 0, .int 0, .ref (u9 0)])), ((u9 0), .inl (z.1, 32, .inl (fun _ => 0))), (q10, .inr (0, [.int 0, .int 0, .ref (u11 0)])), ((u11 0), .inl (z.1, 32, .inl (fun _ => 0))), (q12, .inr (0, [.int 0, .int 0, .ref (u13 0)])), ((u13 0), .inl (z.1, 32, .inl (fun _ => 0)))] rfl ?_
  refine k_iinc (v := 6) C 18 rfl 0 rfl (by decide) (Nat.le_of_ble_eq_true rfl) [(1, _), (0, _)] rfl ?_
  refine k_goto C 15 19 rfl (by decide) ?_
  refine k_iload C 8 rfl 0 rfl rfl ?_
  refine k_bipush C 6 9 rfl (by decide) ?_
  refine k_icmp_ge C 40 10 rfl (by decide) (fun _ => ?_) (fun h => absurd (by decide) h)
  refine k_aload0 C 20 rfl 1 rfl rfl ?_
  refine k_new C (ci := 0) [.int 0, .int 0, .null] tf_A 21 rfl uw_A tf_A_ok wb_25 wb_27 wb_2 rfl (fun j hj => by rcases (show j = 0 ∨ j = 1 ∨ j = 2 by omega) with rfl | rfl | rfl <;> rfl) (14, 219) rfl (by decide) (fun q14 => ?_)
  refine k_dup C 22 rfl ?_
  refine k_callI C 14 [0, 1, 2, 3, 4, 5, 6, 7, 8, 9, 10, 11, 12, 13] [(h0, .inr (1, [.ref q1, .null, .null, .null])), (q1, .inl (z.2.2, 6, .inr (.inr (.inr (.inr (va_up (va_up (va_up (va_up (va_up (va_up (fun _ => none) 0 (some q2)) 1 (some q4)) 2 (some q6)) 3 (some q8)) 4 (some q10)) 5 (some q12))))))), (q2, .inr (0, [.int 0, .int 0, .ref (u3 0)])), ((u3 0), .inl (z.1, 32, .inl (fun _ => 0))), (q4, .inr (0, [.int 0, .int 0, .ref (u5 0)])), ((u5 0), .inl (z.1, 32, .inl (fun _ => 0))), (q6, .inr (0, [.int 0, .int 0, .ref (u7 0)])), ((u7 0), .inl (z.1, 32, .inl (fun _ => 0))), (q8, .inr (0, [.int 0, .int 0, .ref (u9 0)])), ((u9 0), .inl (z.1, 32, .inl (fun _ => 0))), (q10, .inr (0, [.int 0, .int 0, .ref (u11 0)])), ((u11 0), .inl (z.1, 32, .inl (fun _ => 0))), (q12, .inr (0, [.int 0, .int 0, .ref (u13 0)])), ((u13 0), .inl (z.1, 32, .inl (fun _ => 0)))] 23 rfl (k_A_init l D z q14) mk_A_init (Or.inr ⟨_, nw_28⟩) rfl rfl wb_29 (by decide +kernel) ⟨(Nat.le_of_ble_eq_true rfl), (Nat.le_of_ble_eq_true rfl)⟩ (Nat.le_of_ble_eq_true rfl) rfl rfl (by decide) (by decide) (15, 251) rfl (by decide) (fun w1 hw1 => ?_)
  obtain ⟨u15, rfl⟩ := hw1
  refine k_put C (ci := 1) 0 1 tf_D (.object "OmegaDesk$Automaton") 24 rfl rfl uw_D tf_D_ok nf_D rfl (by decide) wb_122 rfl rfl (by decide +kernel) rfl rfl (Nat.le_of_ble_eq_true rfl) [(h0, .inr (1, [.ref q1, .ref q14, .null, .null])), (q1, .inl (z.2.2, 6, .inr (.inr (.inr (.inr (va_up (va_up (va_up (va_up (va_up (va_up (fun _ => none) 0 (some q2)) 1 (some q4)) 2 (some q6)) 3 (some q8)) 4 (some q10)) 5 (some q12))))))), (q2, .inr (0, [.int 0, .int 0, .ref (u3 0)])), ((u3 0), .inl (z.1, 32, .inl (fun _ => 0))), (q4, .inr (0, [.int 0, .int 0, .ref (u5 0)])), ((u5 0), .inl (z.1, 32, .inl (fun _ => 0))), (q6, .inr (0, [.int 0, .int 0, .ref (u7 0)])), ((u7 0), .inl (z.1, 32, .inl (fun _ => 0))), (q8, .inr (0, [.int 0, .int 0, .ref (u9 0)])), ((u9 0), .inl (z.1, 32, .inl (fun _ => 0))), (q10, .inr (0, [.int 0, .int 0, .ref (u11 0)])), ((u11 0), .inl (z.1, 32, .inl (fun _ => 0))), (q12, .inr (0, [.int 0, .int 0, .ref (u13 0)])), ((u13 0), .inl (z.1, 32, .inl (fun _ => 0))), (q14, .inr (0, [.int 0, .int 0, .ref (u15 0)])), ((u15 0), .inl (z.1, 32, .inl (fun _ => 0)))] rfl ?_
  refine k_aload0 C 25 rfl 1 rfl rfl ?_
  refine k_new C (ci := 2) [.null, .null, .null, .null, .int 0, .int 0, .null] tf_R 26 rfl uw_R tf_R_ok wb_47 wb_48 wb_3 rfl (fun j hj => by rcases (show j = 0 ∨ j = 1 ∨ j = 2 ∨ j = 3 ∨ j = 4 ∨ j = 5 ∨ j = 6 by omega) with rfl | rfl | rfl | rfl | rfl | rfl | rfl <;> rfl) (16, 258) rfl (by decide) (fun q16 => ?_)
  refine k_dup C 27 rfl ?_
  refine k_callI C 16 [0, 1, 2, 3, 4, 5, 6, 7, 8, 9, 10, 11, 12, 13, 14, 15] [(h0, .inr (1, [.ref q1, .ref q14, .null, .null])), (q1, .inl (z.2.2, 6, .inr (.inr (.inr (.inr (va_up (va_up (va_up (va_up (va_up (va_up (fun _ => none) 0 (some q2)) 1 (some q4)) 2 (some q6)) 3 (some q8)) 4 (some q10)) 5 (some q12))))))), (q2, .inr (0, [.int 0, .int 0, .ref (u3 0)])), ((u3 0), .inl (z.1, 32, .inl (fun _ => 0))), (q4, .inr (0, [.int 0, .int 0, .ref (u5 0)])), ((u5 0), .inl (z.1, 32, .inl (fun _ => 0))), (q6, .inr (0, [.int 0, .int 0, .ref (u7 0)])), ((u7 0), .inl (z.1, 32, .inl (fun _ => 0))), (q8, .inr (0, [.int 0, .int 0, .ref (u9 0)])), ((u9 0), .inl (z.1, 32, .inl (fun _ => 0))), (q10, .inr (0, [.int 0, .int 0, .ref (u11 0)])), ((u11 0), .inl (z.1, 32, .inl (fun _ => 0))), (q12, .inr (0, [.int 0, .int 0, .ref (u13 0)])), ((u13 0), .inl (z.1, 32, .inl (fun _ => 0))), (q14, .inr (0, [.int 0, .int 0, .ref (u15 0)])), ((u15 0), .inl (z.1, 32, .inl (fun _ => 0)))] 28 rfl (k_R_init l D z q16) mk_R_init (Or.inr ⟨_, nw_49⟩) rfl rfl wb_50 (by decide +kernel) ⟨(Nat.le_of_ble_eq_true rfl), (Nat.le_of_ble_eq_true rfl)⟩ (Nat.le_of_ble_eq_true rfl) rfl rfl (by decide) (by decide) (21, 4358) rfl (by decide) (fun w1 hw1 => ?_)
  obtain ⟨u17, rfl⟩ := hw1
  refine k_put C (ci := 1) 0 2 tf_D (.object "OmegaDesk$Refuter") 29 rfl rfl uw_D tf_D_ok nf_D rfl (by decide) wb_123 rfl rfl (by decide +kernel) rfl rfl (Nat.le_of_ble_eq_true rfl) [(h0, .inr (1, [.ref q1, .ref q14, .ref q16, .null])), (q1, .inl (z.2.2, 6, .inr (.inr (.inr (.inr (va_up (va_up (va_up (va_up (va_up (va_up (fun _ => none) 0 (some q2)) 1 (some q4)) 2 (some q6)) 3 (some q8)) 4 (some q10)) 5 (some q12))))))), (q2, .inr (0, [.int 0, .int 0, .ref (u3 0)])), ((u3 0), .inl (z.1, 32, .inl (fun _ => 0))), (q4, .inr (0, [.int 0, .int 0, .ref (u5 0)])), ((u5 0), .inl (z.1, 32, .inl (fun _ => 0))), (q6, .inr (0, [.int 0, .int 0, .ref (u7 0)])), ((u7 0), .inl (z.1, 32, .inl (fun _ => 0))), (q8, .inr (0, [.int 0, .int 0, .ref (u9 0)])), ((u9 0), .inl (z.1, 32, .inl (fun _ => 0))), (q10, .inr (0, [.int 0, .int 0, .ref (u11 0)])), ((u11 0), .inl (z.1, 32, .inl (fun _ => 0))), (q12, .inr (0, [.int 0, .int 0, .ref (u13 0)])), ((u13 0), .inl (z.1, 32, .inl (fun _ => 0))), (q14, .inr (0, [.int 0, .int 0, .ref (u15 0)])), ((u15 0), .inl (z.1, 32, .inl (fun _ => 0))), (q16, .inr (2, [.ref (u17 0), .ref (u17 1), .ref (u17 2), .ref (u17 3), .int 0, .int 0, .ref (u17 4)])), ((u17 0), .inl (z.1, 1024, .inl (fun _ => 0))), ((u17 1), .inl (z.1, 1024, .inl (fun _ => 0))), ((u17 2), .inl (z.1, 1024, .inl (fun _ => 0))), ((u17 3), .inl (z.1, 1024, .inl (fun _ => 0))), ((u17 4), .inl (z.1, 4, .inl (fun _ => 0)))] rfl ?_
  refine k_aload0 C 30 rfl 1 rfl rfl ?_
  refine k_new C (ci := 3) [.null, .null, .int 0, .int 0, .int 0, .int 0, .int 0] tf_F 31 rfl uw_F tf_F_ok wb_75 wb_76 wb_4 rfl (fun j hj => by rcases (show j = 0 ∨ j = 1 ∨ j = 2 ∨ j = 3 ∨ j = 4 ∨ j = 5 ∨ j = 6 by omega) with rfl | rfl | rfl | rfl | rfl | rfl | rfl <;> rfl) (22, 4365) rfl (by decide) (fun q18 => ?_)
  refine k_dup C 32 rfl ?_
  refine k_callI C 22 [0, 1, 2, 3, 4, 5, 6, 7, 8, 9, 10, 11, 12, 13, 14, 15, 16, 17, 18, 19, 20, 21] [(h0, .inr (1, [.ref q1, .ref q14, .ref q16, .null])), (q1, .inl (z.2.2, 6, .inr (.inr (.inr (.inr (va_up (va_up (va_up (va_up (va_up (va_up (fun _ => none) 0 (some q2)) 1 (some q4)) 2 (some q6)) 3 (some q8)) 4 (some q10)) 5 (some q12))))))), (q2, .inr (0, [.int 0, .int 0, .ref (u3 0)])), ((u3 0), .inl (z.1, 32, .inl (fun _ => 0))), (q4, .inr (0, [.int 0, .int 0, .ref (u5 0)])), ((u5 0), .inl (z.1, 32, .inl (fun _ => 0))), (q6, .inr (0, [.int 0, .int 0, .ref (u7 0)])), ((u7 0), .inl (z.1, 32, .inl (fun _ => 0))), (q8, .inr (0, [.int 0, .int 0, .ref (u9 0)])), ((u9 0), .inl (z.1, 32, .inl (fun _ => 0))), (q10, .inr (0, [.int 0, .int 0, .ref (u11 0)])), ((u11 0), .inl (z.1, 32, .inl (fun _ => 0))), (q12, .inr (0, [.int 0, .int 0, .ref (u13 0)])), ((u13 0), .inl (z.1, 32, .inl (fun _ => 0))), (q14, .inr (0, [.int 0, .int 0, .ref (u15 0)])), ((u15 0), .inl (z.1, 32, .inl (fun _ => 0))), (q16, .inr (2, [.ref (u17 0), .ref (u17 1), .ref (u17 2), .ref (u17 3), .int 0, .int 0, .ref (u17 4)])), ((u17 0), .inl (z.1, 1024, .inl (fun _ => 0))), ((u17 1), .inl (z.1, 1024, .inl (fun _ => 0))), ((u17 2), .inl (z.1, 1024, .inl (fun _ => 0))), ((u17 3), .inl (z.1, 1024, .inl (fun _ => 0))), ((u17 4), .inl (z.1, 4, .inl (fun _ => 0)))] 33 rfl (k_F_init l D z q18) mk_F_init (Or.inr ⟨_, nw_77⟩) rfl rfl wb_78 (by decide +kernel) ⟨(Nat.le_of_ble_eq_true rfl), (Nat.le_of_ble_eq_true rfl)⟩ (Nat.le_of_ble_eq_true rfl) rfl rfl (by decide) (by decide) (28, 6417) rfl (by decide) (fun w1 hw1 => ?_)
  obtain ⟨u19, rfl⟩ := hw1
  refine k_put C (ci := 1) 0 3 tf_D (.object "OmegaDesk$LassoFinder") 34 rfl rfl uw_D tf_D_ok nf_D rfl (by decide) wb_124 rfl rfl (by decide +kernel) rfl rfl (Nat.le_of_ble_eq_true rfl) [(h0, .inr (1, [.ref q1, .ref q14, .ref q16, .ref q18])), (q1, .inl (z.2.2, 6, .inr (.inr (.inr (.inr (va_up (va_up (va_up (va_up (va_up (va_up (fun _ => none) 0 (some q2)) 1 (some q4)) 2 (some q6)) 3 (some q8)) 4 (some q10)) 5 (some q12))))))), (q2, .inr (0, [.int 0, .int 0, .ref (u3 0)])), ((u3 0), .inl (z.1, 32, .inl (fun _ => 0))), (q4, .inr (0, [.int 0, .int 0, .ref (u5 0)])), ((u5 0), .inl (z.1, 32, .inl (fun _ => 0))), (q6, .inr (0, [.int 0, .int 0, .ref (u7 0)])), ((u7 0), .inl (z.1, 32, .inl (fun _ => 0))), (q8, .inr (0, [.int 0, .int 0, .ref (u9 0)])), ((u9 0), .inl (z.1, 32, .inl (fun _ => 0))), (q10, .inr (0, [.int 0, .int 0, .ref (u11 0)])), ((u11 0), .inl (z.1, 32, .inl (fun _ => 0))), (q12, .inr (0, [.int 0, .int 0, .ref (u13 0)])), ((u13 0), .inl (z.1, 32, .inl (fun _ => 0))), (q14, .inr (0, [.int 0, .int 0, .ref (u15 0)])), ((u15 0), .inl (z.1, 32, .inl (fun _ => 0))), (q16, .inr (2, [.ref (u17 0), .ref (u17 1), .ref (u17 2), .ref (u17 3), .int 0, .int 0, .ref (u17 4)])), ((u17 0), .inl (z.1, 1024, .inl (fun _ => 0))), ((u17 1), .inl (z.1, 1024, .inl (fun _ => 0))), ((u17 2), .inl (z.1, 1024, .inl (fun _ => 0))), ((u17 3), .inl (z.1, 1024, .inl (fun _ => 0))), ((u17 4), .inl (z.1, 4, .inl (fun _ => 0))), (q18, .inr (3, [.ref (u19 0), .ref (u19 3), .int 0, .int 0, .int 0, .int 0, .int 0])), ((u19 0), .inr (4, [.ref (u19 1), .ref (u19 2)])), ((u19 1), .inl (z.1, 512, .inl (fun _ => 0))), ((u19 2), .inl (z.1, 512, .inl (fun _ => 0))), ((u19 3), .inr (4, [.ref (u19 4), .ref (u19 5)])), ((u19 4), .inl (z.1, 512, .inl (fun _ => 0))), ((u19 5), .inl (z.1, 512, .inl (fun _ => 0)))] rfl ?_
  exact k_ret C 35 rfl hr hlk ⟨fun i => [q1, q2, (u3 0), q4, (u5 0), q6, (u7 0), q8, (u9 0), q10, (u11 0), q12, (u13 0), q14, (u15 0), q16, (u17 0), (u17 1), (u17 2), (u17 3), (u17 4), q18, (u19 0), (u19 1), (u19 2), (u19 3), (u19 4), (u19 5)].getD i 0, rfl⟩
