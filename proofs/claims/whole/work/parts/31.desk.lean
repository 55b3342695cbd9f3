def X_D_automatonAt : MX := (⟨"OmegaDesk", "automatonAt", "(I)LOmegaDesk$Automaton;"⟩, prog_1_method_14_code, 2, some (.object "OmegaDesk$Automaton"), { frames := 6, cells := 1, slots := 6, locals := 90 },
  [(0, .iload_n 1, 1), (1, .ifCond .lt 9, 4), (4, .iload_n 1, 5), (5, .bipush 6, 7), (7, .if_icmp .lt 13, 10), (10, .new 68, 13), (13, .dup, 14), (14, .ldc 156, 16), (16, .invokespecial 72, 19), (19, .athrow, 20), (20, .aload_n 0, 21), (21, .getfield 11, 24), (24, .iload_n 1, 25), (25, .aaload, 26), (26, .areturn, 27)])
set_option maxRecDepth 20000 in
theorem mk_D_automatonAt : MkX X_D_automatonAt := ⟨by unfold TBk; decide +kernel, by decide +kernel, wb_146, ⟨by decide, by decide⟩, wb_1⟩
theorem ats_D_68_72 : ATS "OmegaDesk" 68 72 "java/lang/IllegalArgumentException" := ⟨wb_147, wb_10, by decide +kernel, by decide +kernel, by decide +kernel⟩
theorem fg_D_11 : FG "OmegaDesk" 11 3 0 := ⟨R_D, F_D, 4, rfl, by decide, uw_D, Or.inl wb_121⟩
def m_D_automatonAt (a1 : Int32) (M : Mm) : Option ((Nat) ⊕ (Nat × Mm)) :=
  if a1 < 0 then
    some (Sum.inr (1, M))
  else
    if a1 < (6 : Int32) then
      ck (inb a1 6) <|
      some (Sum.inl a1.toNatClampNeg)
    else
      some (Sum.inr (1, M))
set_option maxRecDepth 20000 in
theorem e_D_automatonAt {l : Launch} {a1 : Int32} {M : Mm} {r : (Nat) ⊕ (Nat × Mm)}  (h : m_D_automatonAt a1 M = some r) : EvX l X_D_automatonAt [vr 3 0, vi a1] M (fun v M2 => Sum.elim (fun q => v = (some (vr 0 q)) ∧ M2 = M) (fun _ => False) r) (fun E M2 => Sum.elim (fun _ => False) (fun q => E = xnm q.1 ∧ M2 = q.2) r) := by
  refine EvX.of mk_D_automatonAt [(0, vr 3 0), (1, vi a1)] (fun _ => rfl) (fun _ => (Nat.le_of_ble_eq_true rfl)) ?_
  unfold m_D_automatonAt at h
  refine go_iload_n 0 rfl 1 rfl rfl ?_
  refine go_if_lt 10 1 rfl (by decide) (fun c => ?_) (fun c => ?_)
  · replace h := ite_t c h
    cases h
    exact go_throw 5 rfl rfl rfl rfl rfl ats_D_68_72 (List.mem_of_getElem? (i := 0) rfl) (Nat.le_of_ble_eq_true rfl) (Nat.le_of_ble_eq_true rfl) ⟨(Nat.le_of_ble_eq_true rfl), (Nat.le_of_ble_eq_true rfl)⟩ ⟨(Nat.le_of_ble_eq_true rfl), (Nat.le_of_ble_eq_true rfl)⟩ ⟨rfl, rfl⟩
  · replace h := ite_f c h
    refine go_iload_n 2 rfl 1 rfl rfl ?_
    refine go_bipush 6 3 rfl (by decide) ?_
    refine go_icmp_lt 20 4 rfl (by decide) (fun c => ?_) (fun c => ?_)
    · replace h := ite_t c h
      refine go_aload_n 10 rfl 0 rfl rfl ?_
      refine go_getfield 0 _ 11 rfl (by first | decide | exact ok0 (by omega) | exact ok1 (by omega) | exact ok2 (by omega) | exact ok7 (by omega)) rfl fg_D_11 rfl ?_
      refine go_iload_n 12 rfl 1 rfl rfl ?_
      obtain ⟨c, h⟩ := ck_inv h
      refine go_aaload 13 rfl (inb_vp c) ?_
      cases h
      exact go_xareturn 14 rfl rfl (Or.inl ⟨_, rfl⟩) ⟨(Nat.le_of_ble_eq_true rfl), (Nat.le_of_ble_eq_true rfl)⟩ ⟨rfl, rfl⟩
    · replace h := ite_f c h
      cases h
      exact go_throw 5 rfl rfl rfl rfl rfl ats_D_68_72 (List.mem_of_getElem? (i := 0) rfl) (Nat.le_of_ble_eq_true rfl) (Nat.le_of_ble_eq_true rfl) ⟨(Nat.le_of_ble_eq_true rfl), (Nat.le_of_ble_eq_true rfl)⟩ ⟨(Nat.le_of_ble_eq_true rfl), (Nat.le_of_ble_eq_true rfl)⟩ ⟨rfl, rfl⟩
theorem e_D_automatonAt_n {l : Launch} {a1 : Int32} {M : Mm} {q : Nat}  (h : m_D_automatonAt a1 M = some (Sum.inl q)) : EvX l X_D_automatonAt [vr 3 0, vi a1] M (fun v M2 => v = (some (vr 0 q)) ∧ M2 = M) (fun _ _ => False) := e_D_automatonAt h
theorem e_D_automatonAt_t {l : Launch} {a1 : Int32} {M : Mm} {q : Nat × Mm}  (h : m_D_automatonAt a1 M = some (Sum.inr q)) : EvX l X_D_automatonAt [vr 3 0, vi a1] M (fun _ _ => False) (fun E M2 => E = xnm q.1 ∧ M2 = q.2) := e_D_automatonAt h
def X_D_state : MX := (⟨"OmegaDesk", "state", "(IZ)I"⟩, prog_1_method_2_code, 4, some .int, { frames := 7, cells := 2, slots := 12, locals := 111 },
  [(0, .aload_n 0, 1), (1, .iload_n 1, 2), (2, .invokevirtual 34, 5), (5, .astore_n 3, 6), (6, .aload_n 3, 7), (7, .getfield 38, 10), (10, .iconst 4, 11), (11, .if_icmp .lt 13, 14), (14, .new 42, 17), (17, .dup, 18), (18, .ldc 44, 20), (20, .invokespecial 46, 23), (23, .athrow, 24), (24, .aload_n 3, 25), (25, .iload_n 2, 26), (26, .invokevirtual 49, 29), (29, .ireturn, 30)])
set_option maxRecDepth 20000 in
theorem mk_D_state : MkX X_D_state := ⟨by unfold TBk; decide +kernel, by decide +kernel, wb_142, ⟨by decide, by decide⟩, wb_1⟩
theorem cv_D_34 : CV "OmegaDesk" 34 X_D_automatonAt 1 3 := ⟨Or.inl wb_143, ⟨wb_145, ws_D_automatonAt⟩, by decide +kernel, F_D, 4, rfl⟩
theorem fg_D_38 : FG "OmegaDesk" 38 0 0 := ⟨R_A, F_A, 3, rfl, by decide, uw_A, Or.inr ⟨_, nw_33⟩⟩
theorem cv_D_49 : CV "OmegaDesk" 49 X_A_addState 1 0 := ⟨Or.inl wb_231, ⟨wb_232, wb_233⟩, by decide +kernel, F_A, 3, rfl⟩
theorem ats_D_42_46 : ATS "OmegaDesk" 42 46 "java/lang/IllegalStateException" := ⟨wb_215, wb_11, by decide +kernel, by decide +kernel, by decide +kernel⟩
def m_D_state (a1 : Int32) (a2 : Bool) (M : Mm) : Option ((Int32 × Mm) ⊕ (Nat × Mm)) :=
  bd (m_D_automatonAt a1 M) fun r1 =>
  smr r1 (fun e3 => some (Sum.inr e3)) fun v2 =>
  ck (decide (v2 < 7)) <|
  if (M.1 (0, v2) 0) < (4 : Int32) then
    bd (m_A_addState v2 a2 M) fun r4 =>
    some (Sum.inl (r4.1, r4.2))
  else
    some (Sum.inr (2, M))
set_option maxRecDepth 20000 in
theorem e_D_state {l : Launch} {a1 : Int32} {a2 : Bool} {M : Mm} {r : (Int32 × Mm) ⊕ (Nat × Mm)}  (h : m_D_state a1 a2 M = some r) : EvX l X_D_state [vr 3 0, vi a1, vi (bI a2)] M (fun v M2 => Sum.elim (fun q => v = (some (vi q.1)) ∧ M2 = q.2) (fun _ => False) r) (fun E M2 => Sum.elim (fun _ => False) (fun q => E = xnm q.1 ∧ M2 = q.2) r) := by
  refine EvX.of mk_D_state [(0, vr 3 0), (1, vi a1), (2, vi (bI a2))] (fun _ => rfl) (fun _ => (Nat.le_of_ble_eq_true rfl)) ?_
  unfold m_D_state at h
  refine go_aload_n 0 rfl 0 rfl rfl ?_
  refine go_iload_n 1 rfl 1 rfl rfl ?_
  obtain ⟨x, c, h⟩ := bd_inv h
  rcases x with v | e
  · replace h := smr_l h
    refine go_callXn _ 2 rfl (e_D_automatonAt_n c) (fun _ _ => id) mk_D_automatonAt (by first | decide | exact ok0 (by omega) | exact ok1 (by omega) | exact ok2 (by omega) | exact ok7 (by omega)) rfl cv_D_34 wb_143 rfl ⟨(Nat.le_of_ble_eq_true rfl), (Nat.le_of_ble_eq_true rfl)⟩ ⟨(Nat.le_of_ble_eq_true rfl), (Nat.le_of_ble_eq_true rfl)⟩ (Nat.le_of_ble_eq_true rfl) rfl (1, 6) rfl ?_
    obtain ⟨c7, h⟩ := ck_inv h
    have c7 := of_decide_eq_true c7
    refine go_astore_n 3 rfl rfl (Nat.le_of_ble_eq_true rfl) [(0, _), (1, _), (2, _), (3, _)] rfl ?_
    refine go_aload_n 4 rfl 3 rfl rfl ?_
    refine go_getfield 0 _ 5 rfl (by first | decide | exact ok0 (by omega) | exact ok1 (by omega) | exact ok2 (by omega) | exact ok7 (by omega)) rfl fg_D_38 rfl ?_
    refine go_iconst 4 6 rfl (by decide) ?_
    refine go_icmp_lt 24 7 rfl (by decide) (fun c => ?_) (fun c => ?_)
    · replace h := ite_t c h
      refine go_aload_n 13 rfl 3 rfl rfl ?_
      refine go_iload_n 14 rfl 2 rfl rfl ?_
      obtain ⟨r4, c, h⟩ := bd_inv h
      refine go_callV1 _ 15 rfl (e_A_addState (by omega) c) mk_A_addState (by first | decide | exact ok0 (by omega) | exact ok1 (by omega) | exact ok2 (by omega) | exact ok7 (by omega)) rfl cv_D_49 rfl ⟨(Nat.le_of_ble_eq_true rfl), (Nat.le_of_ble_eq_true rfl)⟩ (Nat.le_of_ble_eq_true rfl) rfl ?_
      cases h
      exact go_xret 16 rfl rfl rfl rfl ⟨(Nat.le_of_ble_eq_true rfl), (Nat.le_of_ble_eq_true rfl)⟩ ⟨rfl, rfl⟩
    · replace h := ite_f c h
      cases h
      exact go_throw 8 rfl rfl rfl rfl rfl ats_D_42_46 (List.mem_of_getElem? (i := 1) rfl) (Nat.le_of_ble_eq_true rfl) (Nat.le_of_ble_eq_true rfl) ⟨(Nat.le_of_ble_eq_true rfl), (Nat.le_of_ble_eq_true rfl)⟩ ⟨(Nat.le_of_ble_eq_true rfl), (Nat.le_of_ble_eq_true rfl)⟩ ⟨rfl, rfl⟩
  · replace h := smr_r h
    cases h
    exact go_callXt _ 2 rfl (e_D_automatonAt_t c) (fun _ _ => id) mk_D_automatonAt (by first | decide | exact ok0 (by omega) | exact ok1 (by omega) | exact ok2 (by omega) | exact ok7 (by omega)) rfl cv_D_34 wb_143 rfl ⟨(Nat.le_of_ble_eq_true rfl), (Nat.le_of_ble_eq_true rfl)⟩ ⟨(Nat.le_of_ble_eq_true rfl), (Nat.le_of_ble_eq_true rfl)⟩ (Nat.le_of_ble_eq_true rfl) rfl (1, 6) rfl (gt_out ⟨(Nat.le_of_ble_eq_true rfl), (Nat.le_of_ble_eq_true rfl)⟩ ⟨rfl, rfl⟩)
theorem e_D_state_n {l : Launch} {a1 : Int32} {a2 : Bool} {M : Mm} {q : Int32 × Mm}  (h : m_D_state a1 a2 M = some (Sum.inl q)) : EvX l X_D_state [vr 3 0, vi a1, vi (bI a2)] M (fun v M2 => v = (some (vi q.1)) ∧ M2 = q.2) (fun _ _ => False) := e_D_state h
theorem e_D_state_t {l : Launch} {a1 : Int32} {a2 : Bool} {M : Mm} {q : Nat × Mm}  (h : m_D_state a1 a2 M = some (Sum.inr q)) : EvX l X_D_state [vr 3 0, vi a1, vi (bI a2)] M (fun _ _ => False) (fun E M2 => E = xnm q.1 ∧ M2 = q.2) := e_D_state h
def X_D_automatonWithPlaces : MX := (⟨"OmegaDesk", "automatonWithPlaces", "(IIII)LOmegaDesk$Automaton;"⟩, prog_1_method_15_code, 6, some (.object "OmegaDesk$Automaton"), { frames := 7, cells := 2, slots := 12, locals := 111 },
  [(0, .aload_n 0, 1), (1, .iload_n 1, 2), (2, .invokevirtual 34, 5), (5, .astore 5, 7), (7, .aload 5, 9), (9, .iload_n 2, 10), (10, .invokevirtual 147, 13), (13, .ifCond .eq 13, 16), (16, .aload 5, 18), (18, .iload 4, 20), (20, .invokevirtual 147, 23), (23, .ifCond .ne 13, 26), (26, .new 68, 29), (29, .dup, 30), (30, .ldc 151, 32), (32, .invokespecial 72, 35), (35, .athrow, 36), (36, .iload_n 3, 37), (37, .ifCond .lt 8, 40), (40, .iload_n 3, 41), (41, .iconst 2, 42), (42, .if_icmp .lt 13, 45), (45, .new 68, 48), (48, .dup, 49), (49, .ldc 158, 51), (51, .invokespecial 72, 54), (54, .athrow, 55), (55, .aload 5, 57), (57, .areturn, 58)])
set_option maxRecDepth 20000 in
theorem mk_D_automatonWithPlaces : MkX X_D_automatonWithPlaces := ⟨by unfold TBk; decide +kernel, by decide +kernel, wb_245, ⟨by decide, by decide⟩, wb_1⟩
theorem cv_D_147 : CV "OmegaDesk" 147 X_A_hasState 1 0 := ⟨Or.inl wb_246, ⟨wb_247, wb_248⟩, by decide +kernel, F_A, 3, rfl⟩
def m_D_automatonWithPlaces (a1 : Int32) (a2 : Int32) (a3 : Int32) (a4 : Int32) (M : Mm) : Option ((Nat) ⊕ (Nat × Mm)) :=
  bd (m_D_automatonAt a1 M) fun r1 =>
  smr r1 (fun e3 => some (Sum.inr e3)) fun v2 =>
  ck (decide (v2 < 7)) <|
  bd (m_A_hasState v2 a2 M) fun r4 =>
  if (bI r4) = 0 then
    some (Sum.inr (1, M))
  else
    bd (m_A_hasState v2 a4 M) fun r5 =>
    if (bI r5) = 0 then
      some (Sum.inr (1, M))
    else
      if a3 < 0 then
        some (Sum.inr (1, M))
      else
        if a3 < (2 : Int32) then
          some (Sum.inl v2)
        else
          some (Sum.inr (1, M))
set_option maxRecDepth 20000 in
theorem e_D_automatonWithPlaces {l : Launch} {a1 : Int32} {a2 : Int32} {a3 : Int32} {a4 : Int32} {M : Mm} {r : (Nat) ⊕ (Nat × Mm)}  (h : m_D_automatonWithPlaces a1 a2 a3 a4 M = some r) : EvX l X_D_automatonWithPlaces [vr 3 0, vi a1, vi a2, vi a3, vi a4] M (fun v M2 => Sum.elim (fun q => v = (some (vr 0 q)) ∧ M2 = M) (fun _ => False) r) (fun E M2 => Sum.elim (fun _ => False) (fun q => E = xnm q.1 ∧ M2 = q.2) r) := by
  refine EvX.of mk_D_automatonWithPlaces [(0, vr 3 0), (1, vi a1), (2, vi a2), (3, vi a3), (4, vi a4)] (fun _ => rfl) (fun _ => (Nat.le_of_ble_eq_true rfl)) ?_
  unfold m_D_automatonWithPlaces at h
  refine go_aload_n 0 rfl 0 rfl rfl ?_
  refine go_iload_n 1 rfl 1 rfl rfl ?_
  obtain ⟨x, c, h⟩ := bd_inv h
  rcases x with v | e
  · replace h := smr_l h
    refine go_callXn _ 2 rfl (e_D_automatonAt_n c) (fun _ _ => id) mk_D_automatonAt (by first | decide | exact ok0 (by omega) | exact ok1 (by omega) | exact ok2 (by omega) | exact ok7 (by omega)) rfl cv_D_34 wb_143 rfl ⟨(Nat.le_of_ble_eq_true rfl), (Nat.le_of_ble_eq_true rfl)⟩ ⟨(Nat.le_of_ble_eq_true rfl), (Nat.le_of_ble_eq_true rfl)⟩ (Nat.le_of_ble_eq_true rfl) rfl (1, 6) rfl ?_
    obtain ⟨c7, h⟩ := ck_inv h
    have c7 := of_decide_eq_true c7
    refine go_astore 3 rfl (Nat.le_of_ble_eq_true rfl) [(0, _), (1, _), (2, _), (3, _), (4, _), (5, _)] rfl ?_
    refine go_aload 4 rfl 5 rfl ?_
    refine go_iload_n 5 rfl 2 rfl rfl ?_
    obtain ⟨r4, c, h⟩ := bd_inv h
    refine go_callV1 _ 6 rfl (e_A_hasState (by omega) c) mk_A_hasState (by first | decide | exact ok0 (by omega) | exact ok1 (by omega) | exact ok2 (by omega) | exact ok7 (by omega)) rfl cv_D_147 rfl ⟨(Nat.le_of_ble_eq_true rfl), (Nat.le_of_ble_eq_true rfl)⟩ (Nat.le_of_ble_eq_true rfl) rfl ?_
    refine go_if_eq 26 7 rfl (by decide) (fun c => ?_) (fun c => ?_)
    · replace h := ite_t c h
      cases h
      exact go_throw 12 rfl rfl rfl rfl rfl ats_D_68_72 (List.mem_of_getElem? (i := 2) rfl) (Nat.le_of_ble_eq_true rfl) (Nat.le_of_ble_eq_true rfl) ⟨(Nat.le_of_ble_eq_true rfl), (Nat.le_of_ble_eq_true rfl)⟩ ⟨(Nat.le_of_ble_eq_true rfl), (Nat.le_of_ble_eq_true rfl)⟩ ⟨rfl, rfl⟩
    · replace h := ite_f c h
      refine go_aload 8 rfl 5 rfl ?_
      refine go_iload 9 rfl 4 rfl ?_
      obtain ⟨r5, c, h⟩ := bd_inv h
      refine go_callV1 _ 10 rfl (e_A_hasState (by omega) c) mk_A_hasState (by first | decide | exact ok0 (by omega) | exact ok1 (by omega) | exact ok2 (by omega) | exact ok7 (by omega)) rfl cv_D_147 rfl ⟨(Nat.le_of_ble_eq_true rfl), (Nat.le_of_ble_eq_true rfl)⟩ (Nat.le_of_ble_eq_true rfl) rfl ?_
      refine go_if_ne 36 11 rfl (by decide) (fun c => ?_) (fun c => ?_)
      · replace h := ite_f c h
        refine go_iload_n 17 rfl 3 rfl rfl ?_
        refine go_if_lt 45 18 rfl (by decide) (fun c => ?_) (fun c => ?_)
        · replace h := ite_t c h
          cases h
          exact go_throw 22 rfl rfl rfl rfl rfl ats_D_68_72 (List.mem_of_getElem? (i := 3) rfl) (Nat.le_of_ble_eq_true rfl) (Nat.le_of_ble_eq_true rfl) ⟨(Nat.le_of_ble_eq_true rfl), (Nat.le_of_ble_eq_true rfl)⟩ ⟨(Nat.le_of_ble_eq_true rfl), (Nat.le_of_ble_eq_true rfl)⟩ ⟨rfl, rfl⟩
        · replace h := ite_f c h
          refine go_iload_n 19 rfl 3 rfl rfl ?_
          refine go_iconst 2 20 rfl (by decide) ?_
          refine go_icmp_lt 55 21 rfl (by decide) (fun c => ?_) (fun c => ?_)
          · replace h := ite_t c h
            refine go_aload 27 rfl 5 rfl ?_
            cases h
            exact go_xareturn 28 rfl rfl (Or.inl ⟨_, rfl⟩) ⟨(Nat.le_of_ble_eq_true rfl), (Nat.le_of_ble_eq_true rfl)⟩ ⟨rfl, rfl⟩
          · replace h := ite_f c h
            cases h
            exact go_throw 22 rfl rfl rfl rfl rfl ats_D_68_72 (List.mem_of_getElem? (i := 3) rfl) (Nat.le_of_ble_eq_true rfl) (Nat.le_of_ble_eq_true rfl) ⟨(Nat.le_of_ble_eq_true rfl), (Nat.le_of_ble_eq_true rfl)⟩ ⟨(Nat.le_of_ble_eq_true rfl), (Nat.le_of_ble_eq_true rfl)⟩ ⟨rfl, rfl⟩
      · replace h := ite_t c h
        cases h
        exact go_throw 12 rfl rfl rfl rfl rfl ats_D_68_72 (List.mem_of_getElem? (i := 2) rfl) (Nat.le_of_ble_eq_true rfl) (Nat.le_of_ble_eq_true rfl) ⟨(Nat.le_of_ble_eq_true rfl), (Nat.le_of_ble_eq_true rfl)⟩ ⟨(Nat.le_of_ble_eq_true rfl), (Nat.le_of_ble_eq_true rfl)⟩ ⟨rfl, rfl⟩
  · replace h := smr_r h
    cases h
    exact go_callXt _ 2 rfl (e_D_automatonAt_t c) (fun _ _ => id) mk_D_automatonAt (by first | decide | exact ok0 (by omega) | exact ok1 (by omega) | exact ok2 (by omega) | exact ok7 (by omega)) rfl cv_D_34 wb_143 rfl ⟨(Nat.le_of_ble_eq_true rfl), (Nat.le_of_ble_eq_true rfl)⟩ ⟨(Nat.le_of_ble_eq_true rfl), (Nat.le_of_ble_eq_true rfl)⟩ (Nat.le_of_ble_eq_true rfl) rfl (1, 6) rfl (gt_out ⟨(Nat.le_of_ble_eq_true rfl), (Nat.le_of_ble_eq_true rfl)⟩ ⟨rfl, rfl⟩)
theorem e_D_automatonWithPlaces_n {l : Launch} {a1 : Int32} {a2 : Int32} {a3 : Int32} {a4 : Int32} {M : Mm} {q : Nat}  (h : m_D_automatonWithPlaces a1 a2 a3 a4 M = some (Sum.inl q)) : EvX l X_D_automatonWithPlaces [vr 3 0, vi a1, vi a2, vi a3, vi a4] M (fun v M2 => v = (some (vr 0 q)) ∧ M2 = M) (fun _ _ => False) := e_D_automatonWithPlaces h
theorem e_D_automatonWithPlaces_t {l : Launch} {a1 : Int32} {a2 : Int32} {a3 : Int32} {a4 : Int32} {M : Mm} {q : Nat × Mm}  (h : m_D_automatonWithPlaces a1 a2 a3 a4 M = some (Sum.inr q)) : EvX l X_D_automatonWithPlaces [vr 3 0, vi a1, vi a2, vi a3, vi a4] M (fun _ _ => False) (fun E M2 => E = xnm q.1 ∧ M2 = q.2) := e_D_automatonWithPlaces h
def X_D_edge : MX := (⟨"OmegaDesk", "edge", "(IIII)Z"⟩, prog_1_method_3_code, 7, some .boolean, { frames := 8, cells := 2, slots := 12, locals := 136 },
  [(0, .aload_n 0, 1), (1, .iload_n 1, 2), (2, .iload_n 2, 3), (3, .iload_n 3, 4), (4, .iload 4, 6), (6, .invokevirtual 53, 9), (9, .astore 5, 11), (11, .aload 5, 13), (13, .iload_n 2, 14), (14, .iload_n 3, 15), (15, .iload 4, 17), (17, .invokevirtual 57, 20), (20, .ifCond .ne 7, 23), (23, .iconst 1, 24), (24, .goto 4, 27), (27, .iconst 0, 28), (28, .istore 6, 30), (30, .aload 5, 32), (32, .iload_n 2, 33), (33, .iload_n 3, 34), (34, .iload 4, 36), (36, .invokevirtual 61, 39), (39, .iload 6, 41), (41, .ireturn, 42)])
set_option maxRecDepth 20000 in
theorem mk_D_edge : MkX X_D_edge := ⟨by unfold TBk; decide +kernel, by decide +kernel, wb_241, ⟨by decide, by decide⟩, wb_1⟩
theorem cv_D_53 : CV "OmegaDesk" 53 X_D_automatonWithPlaces 4 3 := ⟨Or.inl wb_242, ⟨wb_244, ws_D_automatonWithPlaces⟩, by decide +kernel, F_D, 4, rfl⟩
theorem cv_D_57 : CV "OmegaDesk" 57 X_A_joins 3 0 := ⟨Or.inl wb_252, ⟨wb_253, wb_254⟩, by decide +kernel, F_A, 3, rfl⟩
theorem cv_D_61 : CV "OmegaDesk" 61 X_A_join 3 0 := ⟨Or.inl wb_260, ⟨wb_261, wb_262⟩, by decide +kernel, F_A, 3, rfl⟩
def m_D_edge (a1 : Int32) (a2 : Int32) (a3 : Int32) (a4 : Int32) (M : Mm) : Option ((Bool × Mm) ⊕ (Nat × Mm)) :=
  bd (m_D_automatonWithPlaces a1 a2 a3 a4 M) fun r1 =>
  smr r1 (fun e3 => some (Sum.inr e3)) fun v2 =>
  ck (decide (v2 < 7)) <|
  bd (m_A_joins v2 a2 a3 a4 M) fun r4 =>
  if (bI r4) = 0 then
    bd (m_A_join v2 a2 a3 a4 M) fun r6 =>
    some (Sum.inl (true, r6))
  else
    bd (m_A_join v2 a2 a3 a4 M) fun r5 =>
    some (Sum.inl (false, r5))
set_option maxRecDepth 20000 in
theorem e_D_edge {l : Launch} {a1 : Int32} {a2 : Int32} {a3 : Int32} {a4 : Int32} {M : Mm} {r : (Bool × Mm) ⊕ (Nat × Mm)}  (h : m_D_edge a1 a2 a3 a4 M = some r) : EvX l X_D_edge [vr 3 0, vi a1, vi a2, vi a3, vi a4] M (fun v M2 => Sum.elim (fun q => v = (some (vi (bI q.1))) ∧ M2 = q.2) (fun _ => False) r) (fun E M2 => Sum.elim (fun _ => False) (fun q => E = xnm q.1 ∧ M2 = q.2) r) := by
  refine EvX.of mk_D_edge [(0, vr 3 0), (1, vi a1), (2, vi a2), (3, vi a3), (4, vi a4)] (fun _ => rfl) (fun _ => (Nat.le_of_ble_eq_true rfl)) ?_
  unfold m_D_edge at h
  refine go_aload_n 0 rfl 0 rfl rfl ?_
  refine go_iload_n 1 rfl 1 rfl rfl ?_
  refine go_iload_n 2 rfl 2 rfl rfl ?_
  refine go_iload_n 3 rfl 3 rfl rfl ?_
  refine go_iload 4 rfl 4 rfl ?_
  obtain ⟨x, c, h⟩ := bd_inv h
  rcases x with v | e
  · replace h := smr_l h
    refine go_callXn _ 5 rfl (e_D_automatonWithPlaces_n c) (fun _ _ => id) mk_D_automatonWithPlaces (by first | decide | exact ok0 (by omega) | exact ok1 (by omega) | exact ok2 (by omega) | exact ok7 (by omega)) rfl cv_D_53 wb_242 rfl ⟨(Nat.le_of_ble_eq_true rfl), (Nat.le_of_ble_eq_true rfl)⟩ ⟨(Nat.le_of_ble_eq_true rfl), (Nat.le_of_ble_eq_true rfl)⟩ (Nat.le_of_ble_eq_true rfl) rfl (2, 12) rfl ?_
    obtain ⟨c7, h⟩ := ck_inv h
    have c7 := of_decide_eq_true c7
    refine go_astore 6 rfl (Nat.le_of_ble_eq_true rfl) [(0, _), (1, _), (2, _), (3, _), (4, _), (5, _)] rfl ?_
    refine go_aload 7 rfl 5 rfl ?_
    refine go_iload_n 8 rfl 2 rfl rfl ?_
    refine go_iload_n 9 rfl 3 rfl rfl ?_
    refine go_iload 10 rfl 4 rfl ?_
    obtain ⟨r4, c, h⟩ := bd_inv h
    refine go_callV1 _ 11 rfl (e_A_joins (by omega) c) mk_A_joins (by first | decide | exact ok0 (by omega) | exact ok1 (by omega) | exact ok2 (by omega) | exact ok7 (by omega)) rfl cv_D_57 rfl ⟨(Nat.le_of_ble_eq_true rfl), (Nat.le_of_ble_eq_true rfl)⟩ (Nat.le_of_ble_eq_true rfl) rfl ?_
    refine go_if_ne 27 12 rfl (by decide) (fun c => ?_) (fun c => ?_)
    · replace h := ite_f c h
      refine go_iconst 0 15 rfl (by decide) ?_
      refine go_istore 16 rfl (Nat.le_of_ble_eq_true rfl) [(0, _), (1, _), (2, _), (3, _), (4, _), (5, _), (6, _)] rfl ?_
      refine go_aload 17 rfl 5 rfl ?_
      refine go_iload_n 18 rfl 2 rfl rfl ?_
      refine go_iload_n 19 rfl 3 rfl rfl ?_
      refine go_iload 20 rfl 4 rfl ?_
      obtain ⟨r5, c, h⟩ := bd_inv h
      refine go_callV1 _ 21 rfl (e_A_join (by omega) c) mk_A_join (by first | decide | exact ok0 (by omega) | exact ok1 (by omega) | exact ok2 (by omega) | exact ok7 (by omega)) rfl cv_D_61 rfl ⟨(Nat.le_of_ble_eq_true rfl), (Nat.le_of_ble_eq_true rfl)⟩ (Nat.le_of_ble_eq_true rfl) rfl ?_
      refine go_iload 22 rfl 6 rfl ?_
      cases h
      exact go_xret 23 rfl rfl rfl rfl ⟨(Nat.le_of_ble_eq_true rfl), (Nat.le_of_ble_eq_true rfl)⟩ ⟨rfl, rfl⟩
    · replace h := ite_t c h
      refine go_iconst 1 13 rfl (by decide) ?_
      refine go_goto 28 14 rfl (by decide) ?_
      refine go_istore 16 rfl (Nat.le_of_ble_eq_true rfl) [(0, _), (1, _), (2, _), (3, _), (4, _), (5, _), (6, _)] rfl ?_
      refine go_aload 17 rfl 5 rfl ?_
      refine go_iload_n 18 rfl 2 rfl rfl ?_
      refine go_iload_n 19 rfl 3 rfl rfl ?_
      refine go_iload 20 rfl 4 rfl ?_
      obtain ⟨r6, c, h⟩ := bd_inv h
      refine go_callV1 _ 21 rfl (e_A_join (by omega) c) mk_A_join (by first | decide | exact ok0 (by omega) | exact ok1 (by omega) | exact ok2 (by omega) | exact ok7 (by omega)) rfl cv_D_61 rfl ⟨(Nat.le_of_ble_eq_true rfl), (Nat.le_of_ble_eq_true rfl)⟩ (Nat.le_of_ble_eq_true rfl) rfl ?_
      refine go_iload 22 rfl 6 rfl ?_
      cases h
      exact go_xret 23 rfl rfl rfl rfl ⟨(Nat.le_of_ble_eq_true rfl), (Nat.le_of_ble_eq_true rfl)⟩ ⟨rfl, rfl⟩
  · replace h := smr_r h
    cases h
    exact go_callXt _ 5 rfl (e_D_automatonWithPlaces_t c) (fun _ _ => id) mk_D_automatonWithPlaces (by first | decide | exact ok0 (by omega) | exact ok1 (by omega) | exact ok2 (by omega) | exact ok7 (by omega)) rfl cv_D_53 wb_242 rfl ⟨(Nat.le_of_ble_eq_true rfl), (Nat.le_of_ble_eq_true rfl)⟩ ⟨(Nat.le_of_ble_eq_true rfl), (Nat.le_of_ble_eq_true rfl)⟩ (Nat.le_of_ble_eq_true rfl) rfl (2, 12) rfl (gt_out ⟨(Nat.le_of_ble_eq_true rfl), (Nat.le_of_ble_eq_true rfl)⟩ ⟨rfl, rfl⟩)
theorem e_D_edge_n {l : Launch} {a1 : Int32} {a2 : Int32} {a3 : Int32} {a4 : Int32} {M : Mm} {q : Bool × Mm}  (h : m_D_edge a1 a2 a3 a4 M = some (Sum.inl q)) : EvX l X_D_edge [vr 3 0, vi a1, vi a2, vi a3, vi a4] M (fun v M2 => v = (some (vi (bI q.1))) ∧ M2 = q.2) (fun _ _ => False) := e_D_edge h
theorem e_D_edge_t {l : Launch} {a1 : Int32} {a2 : Int32} {a3 : Int32} {a4 : Int32} {M : Mm} {q : Nat × Mm}  (h : m_D_edge a1 a2 a3 a4 M = some (Sum.inr q)) : EvX l X_D_edge [vr 3 0, vi a1, vi a2, vi a3, vi a4] M (fun _ _ => False) (fun E M2 => E = xnm q.1 ∧ M2 = q.2) := e_D_edge h
def X_D_clear : MX := (⟨"OmegaDesk", "clear", "(I)V"⟩, prog_1_method_4_code, 2, none, { frames := 7, cells := 1, slots := 6, locals := 111 },
  [(0, .aload_n 0, 1), (1, .iload_n 1, 2), (2, .invokevirtual 34, 5), (5, .invokevirtual 65, 8), (8, .return_, 9)])
set_option maxRecDepth 20000 in
theorem mk_D_clear : MkX X_D_clear := ⟨by unfold TBk; decide +kernel, by decide +kernel, wb_270, ⟨by decide, by decide⟩, wb_1⟩
theorem cv_D_65 : CV "OmegaDesk" 65 X_A_wipe 0 0 := ⟨Or.inl wb_271, ⟨wb_272, wb_273⟩, by decide +kernel, F_A, 3, rfl⟩
def m_D_clear (a1 : Int32) (M : Mm) : Option ((Mm) ⊕ (Nat × Mm)) :=
  bd (m_D_automatonAt a1 M) fun r1 =>
  smr r1 (fun e3 => some (Sum.inr e3)) fun v2 =>
  ck (decide (v2 < 7)) <|
  bd (m_A_wipe v2 M) fun r4 =>
  some (Sum.inl r4)
set_option maxRecDepth 20000 in
theorem e_D_clear {l : Launch} {a1 : Int32} {M : Mm} {r : (Mm) ⊕ (Nat × Mm)}  (h : m_D_clear a1 M = some r) : EvX l X_D_clear [vr 3 0, vi a1] M (fun v M2 => Sum.elim (fun q => v = none ∧ M2 = q) (fun _ => False) r) (fun E M2 => Sum.elim (fun _ => False) (fun q => E = xnm q.1 ∧ M2 = q.2) r) := by
  refine EvX.of mk_D_clear [(0, vr 3 0), (1, vi a1)] (fun _ => rfl) (fun _ => (Nat.le_of_ble_eq_true rfl)) ?_
  unfold m_D_clear at h
  refine go_aload_n 0 rfl 0 rfl rfl ?_
  refine go_iload_n 1 rfl 1 rfl rfl ?_
  obtain ⟨x, c, h⟩ := bd_inv h
  rcases x with v | e
  · replace h := smr_l h
    refine go_callXn _ 2 rfl (e_D_automatonAt_n c) (fun _ _ => id) mk_D_automatonAt (by first | decide | exact ok0 (by omega) | exact ok1 (by omega) | exact ok2 (by omega) | exact ok7 (by omega)) rfl cv_D_34 wb_143 rfl ⟨(Nat.le_of_ble_eq_true rfl), (Nat.le_of_ble_eq_true rfl)⟩ ⟨(Nat.le_of_ble_eq_true rfl), (Nat.le_of_ble_eq_true rfl)⟩ (Nat.le_of_ble_eq_true rfl) rfl (1, 6) rfl ?_
    obtain ⟨c7, h⟩ := ck_inv h
    have c7 := of_decide_eq_true c7
    obtain ⟨r4, c, h⟩ := bd_inv h
    refine go_callV1 _ 3 rfl (e_A_wipe (by omega) c) mk_A_wipe (by first | decide | exact ok0 (by omega) | exact ok1 (by omega) | exact ok2 (by omega) | exact ok7 (by omega)) rfl cv_D_65 rfl ⟨(Nat.le_of_ble_eq_true rfl), (Nat.le_of_ble_eq_true rfl)⟩ (Nat.le_of_ble_eq_true rfl) rfl ?_
    cases h
    exact go_xreturn 4 rfl rfl ⟨(Nat.le_of_ble_eq_true rfl), (Nat.le_of_ble_eq_true rfl)⟩ ⟨rfl, rfl⟩
  · replace h := smr_r h
    cases h
    exact go_callXt _ 2 rfl (e_D_automatonAt_t c) (fun _ _ => id) mk_D_automatonAt (by first | decide | exact ok0 (by omega) | exact ok1 (by omega) | exact ok2 (by omega) | exact ok7 (by omega)) rfl cv_D_34 wb_143 rfl ⟨(Nat.le_of_ble_eq_true rfl), (Nat.le_of_ble_eq_true rfl)⟩ ⟨(Nat.le_of_ble_eq_true rfl), (Nat.le_of_ble_eq_true rfl)⟩ (Nat.le_of_ble_eq_true rfl) rfl (1, 6) rfl (gt_out ⟨(Nat.le_of_ble_eq_true rfl), (Nat.le_of_ble_eq_true rfl)⟩ ⟨rfl, rfl⟩)
theorem e_D_clear_n {l : Launch} {a1 : Int32} {M : Mm} {q : Mm}  (h : m_D_clear a1 M = some (Sum.inl q)) : EvX l X_D_clear [vr 3 0, vi a1] M (fun v M2 => v = none ∧ M2 = q) (fun _ _ => False) := e_D_clear h
theorem e_D_clear_t {l : Launch} {a1 : Int32} {M : Mm} {q : Nat × Mm}  (h : m_D_clear a1 M = some (Sum.inr q)) : EvX l X_D_clear [vr 3 0, vi a1] M (fun _ _ => False) (fun E M2 => E = xnm q.1 ∧ M2 = q.2) := e_D_clear h
def X_D_unite : MX := (⟨"OmegaDesk", "unite", "(III)I"⟩, prog_1_method_5_code, 7, some .int, { frames := 7, cells := 4, slots := 24, locals := 111 },
  [(0, .aload_n 0, 1), (1, .iload_n 1, 2), (2, .invokevirtual 34, 5), (5, .astore 4, 7), (7, .aload_n 0, 8), (8, .iload_n 2, 9), (9, .invokevirtual 34, 12), (12, .astore 5, 14), (14, .aload_n 0, 15), (15, .iload_n 3, 16), (16, .invokevirtual 34, 19), (19, .astore 6, 21), (21, .iload_n 1, 22), (22, .iload_n 2, 23), (23, .if_icmp .eq 13, 26), (26, .iload_n 1, 27), (27, .iload_n 3, 28), (28, .if_icmp .eq 8, 31), (31, .iload_n 2, 32), (32, .iload_n 3, 33), (33, .if_icmp .ne 13, 36), (36, .new 68, 39), (39, .dup, 40), (40, .ldc 70, 42), (42, .invokespecial 72, 45), (45, .athrow, 46), (46, .iconst 1, 47), (47, .aload 4, 49), (49, .getfield 38, 52), (52, .iadd, 53), (53, .aload 5, 55), (55, .getfield 38, 58), (58, .iadd, 59), (59, .iconst 4, 60), (60, .if_icmp .le 13, 63), (63, .new 42, 66), (66, .dup, 67), (67, .ldc 73, 69), (69, .invokespecial 46, 72), (72, .athrow, 73), (73, .aload 6, 75), (75, .invokevirtual 65, 78), (78, .aload 6, 80), (80, .iconst 0, 81), (81, .invokevirtual 49, 84), (84, .pop, 85), (85, .aload 6, 87), (87, .aload 4, 89), (89, .invokevirtual 75, 92), (92, .aload 6, 94), (94, .aload 5, 96), (96, .invokevirtual 75, 99), (99, .aload 6, 101), (101, .getfield 38, 104), (104, .ireturn, 105)])
set_option maxRecDepth 20000 in
theorem mk_D_unite : MkX X_D_unite := ⟨by unfold TBk; decide +kernel, by decide +kernel, wb_284, ⟨by decide, by decide⟩, wb_1⟩
theorem cv_D_75 : CV "OmegaDesk" 75 X_A_append 1 0 := ⟨Or.inl wb_287, ⟨wb_288, wb_289⟩, by decide +kernel, F_A, 3, rfl⟩
def m_D_unite (a1 : Int32) (a2 : Int32) (a3 : Int32) (M : Mm) : Option ((Int32 × Mm) ⊕ (Nat × Mm)) :=
  bd (m_D_automatonAt a1 M) fun r1 =>
  smr r1 (fun e3 => some (Sum.inr e3)) fun v2 =>
  ck (decide (v2 < 7)) <|
  bd (m_D_automatonAt a2 M) fun r4 =>
  smr r4 (fun e6 => some (Sum.inr e6)) fun v5 =>
  ck (decide (v5 < 7)) <|
  bd (m_D_automatonAt a3 M) fun r7 =>
  smr r7 (fun e9 => some (Sum.inr e9)) fun v8 =>
  ck (decide (v8 < 7)) <|
  if a1 = a2 then
    some (Sum.inr (1, M))
  else
    if a1 = a3 then
      some (Sum.inr (1, M))
    else
      if a2 = a3 then
        some (Sum.inr (1, M))
      else
        if (((1 : Int32) + (M.1 (0, v2) 0)) + (M.1 (0, v5) 0)) ≤ (4 : Int32) then
          bd (m_A_wipe v8 M) fun r10 =>
          bd (m_A_addState v8 false r10) fun r11 =>
          bd (m_A_append v8 v2 r11.2) fun r12 =>
          bd (m_A_append v8 v5 r12) fun r13 =>
          some (Sum.inl ((r13.1 (0, v8) 0), r13))
        else
          some (Sum.inr (2, M))
set_option maxRecDepth 20000 in
theorem e_D_unite {l : Launch} {a1 : Int32} {a2 : Int32} {a3 : Int32} {M : Mm} {r : (Int32 × Mm) ⊕ (Nat × Mm)}  (h : m_D_unite a1 a2 a3 M = some r) : EvX l X_D_unite [vr 3 0, vi a1, vi a2, vi a3] M (fun v M2 => Sum.elim (fun q => v = (some (vi q.1)) ∧ M2 = q.2) (fun _ => False) r) (fun E M2 => Sum.elim (fun _ => False) (fun q => E = xnm q.1 ∧ M2 = q.2) r) := by
  refine EvX.of mk_D_unite [(0, vr 3 0), (1, vi a1), (2, vi a2), (3, vi a3)] (fun _ => rfl) (fun _ => (Nat.le_of_ble_eq_true rfl)) ?_
  unfold m_D_unite at h
  refine go_aload_n 0 rfl 0 rfl rfl ?_
  refine go_iload_n 1 rfl 1 rfl rfl ?_
  obtain ⟨x, c, h⟩ := bd_inv h
  rcases x with v | e
  · replace h := smr_l h
    refine go_callXn _ 2 rfl (e_D_automatonAt_n c) (fun _ _ => id) mk_D_automatonAt (by first | decide | exact ok0 (by omega) | exact ok1 (by omega) | exact ok2 (by omega) | exact ok7 (by omega)) rfl cv_D_34 wb_143 rfl ⟨(Nat.le_of_ble_eq_true rfl), (Nat.le_of_ble_eq_true rfl)⟩ ⟨(Nat.le_of_ble_eq_true rfl), (Nat.le_of_ble_eq_true rfl)⟩ (Nat.le_of_ble_eq_true rfl) rfl (1, 6) rfl ?_
    obtain ⟨c7, h⟩ := ck_inv h
    have c7 := of_decide_eq_true c7
    refine go_astore 3 rfl (Nat.le_of_ble_eq_true rfl) [(0, _), (1, _), (2, _), (3, _), (4, _)] rfl ?_
    refine go_aload_n 4 rfl 0 rfl rfl ?_
    refine go_iload_n 5 rfl 2 rfl rfl ?_
    obtain ⟨x, c, h⟩ := bd_inv h
    rcases x with v | e
    · replace h := smr_l h
      refine go_callXn _ 6 rfl (e_D_automatonAt_n c) (fun _ _ => id) mk_D_automatonAt (by first | decide | exact ok0 (by omega) | exact ok1 (by omega) | exact ok2 (by omega) | exact ok7 (by omega)) rfl cv_D_34 wb_143 rfl ⟨(Nat.le_of_ble_eq_true rfl), (Nat.le_of_ble_eq_true rfl)⟩ ⟨(Nat.le_of_ble_eq_true rfl), (Nat.le_of_ble_eq_true rfl)⟩ (Nat.le_of_ble_eq_true rfl) rfl (2, 12) rfl ?_
      obtain ⟨c7, h⟩ := ck_inv h
      have c7 := of_decide_eq_true c7
      refine go_astore 7 rfl (Nat.le_of_ble_eq_true rfl) [(0, _), (1, _), (2, _), (3, _), (4, _), (5, _)] rfl ?_
      refine go_aload_n 8 rfl 0 rfl rfl ?_
      refine go_iload_n 9 rfl 3 rfl rfl ?_
      obtain ⟨x, c, h⟩ := bd_inv h
      rcases x with v | e
      · replace h := smr_l h
        refine go_callXn _ 10 rfl (e_D_automatonAt_n c) (fun _ _ => id) mk_D_automatonAt (by first | decide | exact ok0 (by omega) | exact ok1 (by omega) | exact ok2 (by omega) | exact ok7 (by omega)) rfl cv_D_34 wb_143 rfl ⟨(Nat.le_of_ble_eq_true rfl), (Nat.le_of_ble_eq_true rfl)⟩ ⟨(Nat.le_of_ble_eq_true rfl), (Nat.le_of_ble_eq_true rfl)⟩ (Nat.le_of_ble_eq_true rfl) rfl (3, 18) rfl ?_
        obtain ⟨c7, h⟩ := ck_inv h
        have c7 := of_decide_eq_true c7
        refine go_astore 11 rfl (Nat.le_of_ble_eq_true rfl) [(0, _), (1, _), (2, _), (3, _), (4, _), (5, _), (6, _)] rfl ?_
        refine go_iload_n 12 rfl 1 rfl rfl ?_
        refine go_iload_n 13 rfl 2 rfl rfl ?_
        refine go_icmp_eq 36 14 rfl (by decide) (fun c => ?_) (fun c => ?_)
        · replace h := ite_t c h
          cases h
          exact go_throw 21 rfl rfl rfl rfl rfl ats_D_68_72 (List.mem_of_getElem? (i := 4) rfl) (Nat.le_of_ble_eq_true rfl) (Nat.le_of_ble_eq_true rfl) ⟨(Nat.le_of_ble_eq_true rfl), (Nat.le_of_ble_eq_true rfl)⟩ ⟨(Nat.le_of_ble_eq_true rfl), (Nat.le_of_ble_eq_true rfl)⟩ ⟨rfl, rfl⟩
        · replace h := ite_f c h
          refine go_iload_n 15 rfl 1 rfl rfl ?_
          refine go_iload_n 16 rfl 3 rfl rfl ?_
          refine go_icmp_eq 36 17 rfl (by decide) (fun c => ?_) (fun c => ?_)
          · replace h := ite_t c h
            cases h
            exact go_throw 21 rfl rfl rfl rfl rfl ats_D_68_72 (List.mem_of_getElem? (i := 4) rfl) (Nat.le_of_ble_eq_true rfl) (Nat.le_of_ble_eq_true rfl) ⟨(Nat.le_of_ble_eq_true rfl), (Nat.le_of_ble_eq_true rfl)⟩ ⟨(Nat.le_of_ble_eq_true rfl), (Nat.le_of_ble_eq_true rfl)⟩ ⟨rfl, rfl⟩
          · replace h := ite_f c h
            refine go_iload_n 18 rfl 2 rfl rfl ?_
            refine go_iload_n 19 rfl 3 rfl rfl ?_
            refine go_icmp_ne 46 20 rfl (by decide) (fun c => ?_) (fun c => ?_)
            · replace h := ite_f c h
              refine go_iconst 1 26 rfl (by decide) ?_
              refine go_aload 27 rfl 4 rfl ?_
              refine go_getfield 0 _ 28 rfl (by first | decide | exact ok0 (by omega) | exact ok1 (by omega) | exact ok2 (by omega) | exact ok7 (by omega)) rfl fg_D_38 rfl ?_
              refine go_iadd 29 rfl ?_
              refine go_aload 30 rfl 5 rfl ?_
              refine go_getfield 0 _ 31 rfl (by first | decide | exact ok0 (by omega) | exact ok1 (by omega) | exact ok2 (by omega) | exact ok7 (by omega)) rfl fg_D_38 rfl ?_
              refine go_iadd 32 rfl ?_
              refine go_iconst 4 33 rfl (by decide) ?_
              refine go_icmp_le 73 34 rfl (by decide) (fun c => ?_) (fun c => ?_)
              · replace h := ite_t c h
                refine go_aload 40 rfl 6 rfl ?_
                obtain ⟨r10, c, h⟩ := bd_inv h
                refine go_callV1 _ 41 rfl (e_A_wipe (by omega) c) mk_A_wipe (by first | decide | exact ok0 (by omega) | exact ok1 (by omega) | exact ok2 (by omega) | exact ok7 (by omega)) rfl cv_D_65 rfl ⟨(Nat.le_of_ble_eq_true rfl), (Nat.le_of_ble_eq_true rfl)⟩ (Nat.le_of_ble_eq_true rfl) rfl ?_
                refine go_aload 42 rfl 6 rfl ?_
                refine go_iconst 0 43 rfl (by decide) ?_
                obtain ⟨r11, c, h⟩ := bd_inv h
                refine go_callV1 _ 44 rfl (e_A_addState (by omega) c) mk_A_addState (by first | decide | exact ok0 (by omega) | exact ok1 (by omega) | exact ok2 (by omega) | exact ok7 (by omega)) rfl cv_D_49 rfl ⟨(Nat.le_of_ble_eq_true rfl), (Nat.le_of_ble_eq_true rfl)⟩ (Nat.le_of_ble_eq_true rfl) rfl ?_
                refine go_pop 45 rfl rfl ?_
                refine go_aload 46 rfl 6 rfl ?_
                refine go_aload 47 rfl 4 rfl ?_
                obtain ⟨r12, c, h⟩ := bd_inv h
                refine go_callV1 _ 48 rfl (e_A_append (by omega) (by omega) c) mk_A_append (by first | decide | exact ok0 (by omega) | exact ok1 (by omega) | exact ok2 (by omega) | exact ok7 (by omega)) rfl cv_D_75 rfl ⟨(Nat.le_of_ble_eq_true rfl), (Nat.le_of_ble_eq_true rfl)⟩ (Nat.le_of_ble_eq_true rfl) rfl ?_
                refine go_aload 49 rfl 6 rfl ?_
                refine go_aload 50 rfl 5 rfl ?_
                obtain ⟨r13, c, h⟩ := bd_inv h
                refine go_callV1 _ 51 rfl (e_A_append (by omega) (by omega) c) mk_A_append (by first | decide | exact ok0 (by omega) | exact ok1 (by omega) | exact ok2 (by omega) | exact ok7 (by omega)) rfl cv_D_75 rfl ⟨(Nat.le_of_ble_eq_true rfl), (Nat.le_of_ble_eq_true rfl)⟩ (Nat.le_of_ble_eq_true rfl) rfl ?_
                refine go_aload 52 rfl 6 rfl ?_
                refine go_getfield 0 _ 53 rfl (by first | decide | exact ok0 (by omega) | exact ok1 (by omega) | exact ok2 (by omega) | exact ok7 (by omega)) rfl fg_D_38 rfl ?_
                cases h
                exact go_xret 54 rfl rfl rfl rfl ⟨(Nat.le_of_ble_eq_true rfl), (Nat.le_of_ble_eq_true rfl)⟩ ⟨rfl, rfl⟩
              · replace h := ite_f c h
                cases h
                exact go_throw 35 rfl rfl rfl rfl rfl ats_D_42_46 (List.mem_of_getElem? (i := 5) rfl) (Nat.le_of_ble_eq_true rfl) (Nat.le_of_ble_eq_true rfl) ⟨(Nat.le_of_ble_eq_true rfl), (Nat.le_of_ble_eq_true rfl)⟩ ⟨(Nat.le_of_ble_eq_true rfl), (Nat.le_of_ble_eq_true rfl)⟩ ⟨rfl, rfl⟩
            · replace h := ite_t c h
              cases h
              exact go_throw 21 rfl rfl rfl rfl rfl ats_D_68_72 (List.mem_of_getElem? (i := 4) rfl) (Nat.le_of_ble_eq_true rfl) (Nat.le_of_ble_eq_true rfl) ⟨(Nat.le_of_ble_eq_true rfl), (Nat.le_of_ble_eq_true rfl)⟩ ⟨(Nat.le_of_ble_eq_true rfl), (Nat.le_of_ble_eq_true rfl)⟩ ⟨rfl, rfl⟩
      · replace h := smr_r h
        cases h
        exact go_callXt _ 10 rfl (e_D_automatonAt_t c) (fun _ _ => id) mk_D_automatonAt (by first | decide | exact ok0 (by omega) | exact ok1 (by omega) | exact ok2 (by omega) | exact ok7 (by omega)) rfl cv_D_34 wb_143 rfl ⟨(Nat.le_of_ble_eq_true rfl), (Nat.le_of_ble_eq_true rfl)⟩ ⟨(Nat.le_of_ble_eq_true rfl), (Nat.le_of_ble_eq_true rfl)⟩ (Nat.le_of_ble_eq_true rfl) rfl (3, 18) rfl (gt_out ⟨(Nat.le_of_ble_eq_true rfl), (Nat.le_of_ble_eq_true rfl)⟩ ⟨rfl, rfl⟩)
    · replace h := smr_r h
      cases h
      exact go_callXt _ 6 rfl (e_D_automatonAt_t c) (fun _ _ => id) mk_D_automatonAt (by first | decide | exact ok0 (by omega) | exact ok1 (by omega) | exact ok2 (by omega) | exact ok7 (by omega)) rfl cv_D_34 wb_143 rfl ⟨(Nat.le_of_ble_eq_true rfl), (Nat.le_of_ble_eq_true rfl)⟩ ⟨(Nat.le_of_ble_eq_true rfl), (Nat.le_of_ble_eq_true rfl)⟩ (Nat.le_of_ble_eq_true rfl) rfl (2, 12) rfl (gt_out ⟨(Nat.le_of_ble_eq_true rfl), (Nat.le_of_ble_eq_true rfl)⟩ ⟨rfl, rfl⟩)
  · replace h := smr_r h
    cases h
    exact go_callXt _ 2 rfl (e_D_automatonAt_t c) (fun _ _ => id) mk_D_automatonAt (by first | decide | exact ok0 (by omega) | exact ok1 (by omega) | exact ok2 (by omega) | exact ok7 (by omega)) rfl cv_D_34 wb_143 rfl ⟨(Nat.le_of_ble_eq_true rfl), (Nat.le_of_ble_eq_true rfl)⟩ ⟨(Nat.le_of_ble_eq_true rfl), (Nat.le_of_ble_eq_true rfl)⟩ (Nat.le_of_ble_eq_true rfl) rfl (1, 6) rfl (gt_out ⟨(Nat.le_of_ble_eq_true rfl), (Nat.le_of_ble_eq_true rfl)⟩ ⟨rfl, rfl⟩)
theorem e_D_unite_n {l : Launch} {a1 : Int32} {a2 : Int32} {a3 : Int32} {M : Mm} {q : Int32 × Mm}  (h : m_D_unite a1 a2 a3 M = some (Sum.inl q)) : EvX l X_D_unite [vr 3 0, vi a1, vi a2, vi a3] M (fun v M2 => v = (some (vi q.1)) ∧ M2 = q.2) (fun _ _ => False) := e_D_unite h
theorem e_D_unite_t {l : Launch} {a1 : Int32} {a2 : Int32} {a3 : Int32} {M : Mm} {q : Nat × Mm}  (h : m_D_unite a1 a2 a3 M = some (Sum.inr q)) : EvX l X_D_unite [vr 3 0, vi a1, vi a2, vi a3] M (fun _ _ => False) (fun E M2 => E = xnm q.1 ∧ M2 = q.2) := e_D_unite h
def X_D_trim : MX := (⟨"OmegaDesk", "trim", "(I)I"⟩, prog_1_method_6_code, 3, some .int, { frames := 7, cells := 1, slots := 6, locals := 111 },
  [(0, .aload_n 0, 1), (1, .iload_n 1, 2), (2, .invokevirtual 34, 5), (5, .astore_n 2, 6), (6, .aload_n 0, 7), (7, .getfield 16, 10), (10, .aload_n 2, 11), (11, .invokevirtual 79, 14), (14, .aload_n 2, 15), (15, .aload_n 0, 16), (16, .getfield 16, 19), (19, .aload_n 0, 20), (20, .getfield 16, 23), (23, .invokevirtual 82, 26), (26, .invokevirtual 86, 29), (29, .aload_n 2, 30), (30, .getfield 38, 33), (33, .ireturn, 34)])
set_option maxRecDepth 20000 in
theorem mk_D_trim : MkX X_D_trim := ⟨by unfold TBk; decide +kernel, by decide +kernel, wb_307, ⟨by decide, by decide⟩, wb_1⟩
theorem fg_D_16 : FG "OmegaDesk" 16 3 1 := ⟨R_D, F_D, 4, rfl, by decide, uw_D, Or.inl wb_122⟩
theorem cv_D_79 : CV "OmegaDesk" 79 X_A_copy 1 0 := ⟨Or.inl wb_308, ⟨wb_309, wb_310⟩, by decide +kernel, F_A, 3, rfl⟩
theorem cv_D_82 : CV "OmegaDesk" 82 X_A_usefulStates 0 0 := ⟨Or.inl wb_315, ⟨wb_316, wb_317⟩, by decide +kernel, F_A, 3, rfl⟩
theorem cv_D_86 : CV "OmegaDesk" 86 X_A_becomePart 2 0 := ⟨Or.inl wb_349, ⟨wb_350, wb_351⟩, by decide +kernel, F_A, 3, rfl⟩
def m_D_trim (a1 : Int32) (M : Mm) : Option ((Int32 × Mm) ⊕ (Nat × Mm)) :=
  bd (m_D_automatonAt a1 M) fun r1 =>
  smr r1 (fun e3 => some (Sum.inr e3)) fun v2 =>
  ck (decide (v2 < 7)) <|
  bd (m_A_copy 6 v2 M) fun r4 =>
  bd (m_A_usefulStates 6 r4) fun r5 =>
  bd (m_A_becomePart v2 6 r5 r4) fun r6 =>
  some (Sum.inl ((r6.1 (0, v2) 0), r6))
set_option maxRecDepth 20000 in
theorem e_D_trim {l : Launch} {a1 : Int32} {M : Mm} {r : (Int32 × Mm) ⊕ (Nat × Mm)}  (h : m_D_trim a1 M = some r) : EvX l X_D_trim [vr 3 0, vi a1] M (fun v M2 => Sum.elim (fun q => v = (some (vi q.1)) ∧ M2 = q.2) (fun _ => False) r) (fun E M2 => Sum.elim (fun _ => False) (fun q => E = xnm q.1 ∧ M2 = q.2) r) := by
  refine EvX.of mk_D_trim [(0, vr 3 0), (1, vi a1)] (fun _ => rfl) (fun _ => (Nat.le_of_ble_eq_true rfl)) ?_
  unfold m_D_trim at h
  refine go_aload_n 0 rfl 0 rfl rfl ?_
  refine go_iload_n 1 rfl 1 rfl rfl ?_
  obtain ⟨x, c, h⟩ := bd_inv h
  rcases x with v | e
  · replace h := smr_l h
    refine go_callXn _ 2 rfl (e_D_automatonAt_n c) (fun _ _ => id) mk_D_automatonAt (by first | decide | exact ok0 (by omega) | exact ok1 (by omega) | exact ok2 (by omega) | exact ok7 (by omega)) rfl cv_D_34 wb_143 rfl ⟨(Nat.le_of_ble_eq_true rfl), (Nat.le_of_ble_eq_true rfl)⟩ ⟨(Nat.le_of_ble_eq_true rfl), (Nat.le_of_ble_eq_true rfl)⟩ (Nat.le_of_ble_eq_true rfl) rfl (1, 6) rfl ?_
    obtain ⟨c7, h⟩ := ck_inv h
    have c7 := of_decide_eq_true c7
    refine go_astore_n 3 rfl rfl (Nat.le_of_ble_eq_true rfl) [(0, _), (1, _), (2, _)] rfl ?_
    refine go_aload_n 4 rfl 0 rfl rfl ?_
    refine go_getfield 1 _ 5 rfl (by first | decide | exact ok0 (by omega) | exact ok1 (by omega) | exact ok2 (by omega) | exact ok7 (by omega)) rfl fg_D_16 rfl ?_
    refine go_aload_n 6 rfl 2 rfl rfl ?_
    obtain ⟨r4, c, h⟩ := bd_inv h
    refine go_callV1 _ 7 rfl (e_A_copy (by omega) (by omega) c) mk_A_copy (by first | decide | exact ok0 (by omega) | exact ok1 (by omega) | exact ok2 (by omega) | exact ok7 (by omega)) rfl cv_D_79 rfl ⟨(Nat.le_of_ble_eq_true rfl), (Nat.le_of_ble_eq_true rfl)⟩ (Nat.le_of_ble_eq_true rfl) rfl ?_
    refine go_aload_n 8 rfl 2 rfl rfl ?_
    refine go_aload_n 9 rfl 0 rfl rfl ?_
    refine go_getfield 1 _ 10 rfl (by first | decide | exact ok0 (by omega) | exact ok1 (by omega) | exact ok2 (by omega) | exact ok7 (by omega)) rfl fg_D_16 rfl ?_
    refine go_aload_n 11 rfl 0 rfl rfl ?_
    refine go_getfield 1 _ 12 rfl (by first | decide | exact ok0 (by omega) | exact ok1 (by omega) | exact ok2 (by omega) | exact ok7 (by omega)) rfl fg_D_16 rfl ?_
    obtain ⟨r5, c, h⟩ := bd_inv h
    refine go_callV1 _ 13 rfl (e_A_usefulStates (by omega) c) mk_A_usefulStates (by first | decide | exact ok0 (by omega) | exact ok1 (by omega) | exact ok2 (by omega) | exact ok7 (by omega)) rfl cv_D_82 rfl ⟨(Nat.le_of_ble_eq_true rfl), (Nat.le_of_ble_eq_true rfl)⟩ (Nat.le_of_ble_eq_true rfl) rfl ?_
    obtain ⟨r6, c, h⟩ := bd_inv h
    refine go_callV1 _ 14 rfl (e_A_becomePart (by omega) (by omega) c) mk_A_becomePart (by first | decide | exact ok0 (by omega) | exact ok1 (by omega) | exact ok2 (by omega) | exact ok7 (by omega)) rfl cv_D_86 rfl ⟨(Nat.le_of_ble_eq_true rfl), (Nat.le_of_ble_eq_true rfl)⟩ (Nat.le_of_ble_eq_true rfl) rfl ?_
    refine go_aload_n 15 rfl 2 rfl rfl ?_
    refine go_getfield 0 _ 16 rfl (by first | decide | exact ok0 (by omega) | exact ok1 (by omega) | exact ok2 (by omega) | exact ok7 (by omega)) rfl fg_D_38 rfl ?_
    cases h
    exact go_xret 17 rfl rfl rfl rfl ⟨(Nat.le_of_ble_eq_true rfl), (Nat.le_of_ble_eq_true rfl)⟩ ⟨rfl, rfl⟩
  · replace h := smr_r h
    cases h
    exact go_callXt _ 2 rfl (e_D_automatonAt_t c) (fun _ _ => id) mk_D_automatonAt (by first | decide | exact ok0 (by omega) | exact ok1 (by omega) | exact ok2 (by omega) | exact ok7 (by omega)) rfl cv_D_34 wb_143 rfl ⟨(Nat.le_of_ble_eq_true rfl), (Nat.le_of_ble_eq_true rfl)⟩ ⟨(Nat.le_of_ble_eq_true rfl), (Nat.le_of_ble_eq_true rfl)⟩ (Nat.le_of_ble_eq_true rfl) rfl (1, 6) rfl (gt_out ⟨(Nat.le_of_ble_eq_true rfl), (Nat.le_of_ble_eq_true rfl)⟩ ⟨rfl, rfl⟩)
theorem e_D_trim_n {l : Launch} {a1 : Int32} {M : Mm} {q : Int32 × Mm}  (h : m_D_trim a1 M = some (Sum.inl q)) : EvX l X_D_trim [vr 3 0, vi a1] M (fun v M2 => v = (some (vi q.1)) ∧ M2 = q.2) (fun _ _ => False) := e_D_trim h
theorem e_D_trim_t {l : Launch} {a1 : Int32} {M : Mm} {q : Nat × Mm}  (h : m_D_trim a1 M = some (Sum.inr q)) : EvX l X_D_trim [vr 3 0, vi a1] M (fun _ _ => False) (fun E M2 => E = xnm q.1 ∧ M2 = q.2) := e_D_trim h
def X_D_empty : MX := (⟨"OmegaDesk", "empty", "(I)Z"⟩, prog_1_method_7_code, 2, some .boolean, { frames := 7, cells := 1, slots := 6, locals := 111 },
  [(0, .aload_n 0, 1), (1, .iload_n 1, 2), (2, .invokevirtual 34, 5), (5, .invokevirtual 82, 8), (8, .ifCond .ne 7, 11), (11, .iconst 1, 12), (12, .goto 4, 15), (15, .iconst 0, 16), (16, .ireturn, 17)])
set_option maxRecDepth 20000 in
theorem mk_D_empty : MkX X_D_empty := ⟨by unfold TBk; decide +kernel, by decide +kernel, wb_372, ⟨by decide, by decide⟩, wb_1⟩
def m_D_empty (a1 : Int32) (M : Mm) : Option ((Bool) ⊕ (Nat × Mm)) :=
  bd (m_D_automatonAt a1 M) fun r1 =>
  smr r1 (fun e3 => some (Sum.inr e3)) fun v2 =>
  ck (decide (v2 < 7)) <|
  bd (m_A_usefulStates v2 M) fun r4 =>
  if r4 = 0 then
    some (Sum.inl true)
  else
    some (Sum.inl false)
set_option maxRecDepth 20000 in
theorem e_D_empty {l : Launch} {a1 : Int32} {M : Mm} {r : (Bool) ⊕ (Nat × Mm)}  (h : m_D_empty a1 M = some r) : EvX l X_D_empty [vr 3 0, vi a1] M (fun v M2 => Sum.elim (fun q => v = (some (vi (bI q))) ∧ M2 = M) (fun _ => False) r) (fun E M2 => Sum.elim (fun _ => False) (fun q => E = xnm q.1 ∧ M2 = q.2) r) := by
  refine EvX.of mk_D_empty [(0, vr 3 0), (1, vi a1)] (fun _ => rfl) (fun _ => (Nat.le_of_ble_eq_true rfl)) ?_
  unfold m_D_empty at h
  refine go_aload_n 0 rfl 0 rfl rfl ?_
  refine go_iload_n 1 rfl 1 rfl rfl ?_
  obtain ⟨x, c, h⟩ := bd_inv h
  rcases x with v | e
  · replace h := smr_l h
    refine go_callXn _ 2 rfl (e_D_automatonAt_n c) (fun _ _ => id) mk_D_automatonAt (by first | decide | exact ok0 (by omega) | exact ok1 (by omega) | exact ok2 (by omega) | exact ok7 (by omega)) rfl cv_D_34 wb_143 rfl ⟨(Nat.le_of_ble_eq_true rfl), (Nat.le_of_ble_eq_true rfl)⟩ ⟨(Nat.le_of_ble_eq_true rfl), (Nat.le_of_ble_eq_true rfl)⟩ (Nat.le_of_ble_eq_true rfl) rfl (1, 6) rfl ?_
    obtain ⟨c7, h⟩ := ck_inv h
    have c7 := of_decide_eq_true c7
    obtain ⟨r4, c, h⟩ := bd_inv h
    refine go_callV1 _ 3 rfl (e_A_usefulStates (by omega) c) mk_A_usefulStates (by first | decide | exact ok0 (by omega) | exact ok1 (by omega) | exact ok2 (by omega) | exact ok7 (by omega)) rfl cv_D_82 rfl ⟨(Nat.le_of_ble_eq_true rfl), (Nat.le_of_ble_eq_true rfl)⟩ (Nat.le_of_ble_eq_true rfl) rfl ?_
    refine go_if_ne 15 4 rfl (by decide) (fun c => ?_) (fun c => ?_)
    · replace h := ite_f c h
      refine go_iconst 0 7 rfl (by decide) ?_
      cases h
      exact go_xret 8 rfl rfl rfl rfl ⟨(Nat.le_of_ble_eq_true rfl), (Nat.le_of_ble_eq_true rfl)⟩ ⟨rfl, rfl⟩
    · replace h := ite_t c h
      refine go_iconst 1 5 rfl (by decide) ?_
      refine go_goto 16 6 rfl (by decide) ?_
      cases h
      exact go_xret 8 rfl rfl rfl rfl ⟨(Nat.le_of_ble_eq_true rfl), (Nat.le_of_ble_eq_true rfl)⟩ ⟨rfl, rfl⟩
  · replace h := smr_r h
    cases h
    exact go_callXt _ 2 rfl (e_D_automatonAt_t c) (fun _ _ => id) mk_D_automatonAt (by first | decide | exact ok0 (by omega) | exact ok1 (by omega) | exact ok2 (by omega) | exact ok7 (by omega)) rfl cv_D_34 wb_143 rfl ⟨(Nat.le_of_ble_eq_true rfl), (Nat.le_of_ble_eq_true rfl)⟩ ⟨(Nat.le_of_ble_eq_true rfl), (Nat.le_of_ble_eq_true rfl)⟩ (Nat.le_of_ble_eq_true rfl) rfl (1, 6) rfl (gt_out ⟨(Nat.le_of_ble_eq_true rfl), (Nat.le_of_ble_eq_true rfl)⟩ ⟨rfl, rfl⟩)
theorem e_D_empty_n {l : Launch} {a1 : Int32} {M : Mm} {q : Bool}  (h : m_D_empty a1 M = some (Sum.inl q)) : EvX l X_D_empty [vr 3 0, vi a1] M (fun v M2 => v = (some (vi (bI q))) ∧ M2 = M) (fun _ _ => False) := e_D_empty h
theorem e_D_empty_t {l : Launch} {a1 : Int32} {M : Mm} {q : Nat × Mm}  (h : m_D_empty a1 M = some (Sum.inr q)) : EvX l X_D_empty [vr 3 0, vi a1] M (fun _ _ => False) (fun E M2 => E = xnm q.1 ∧ M2 = q.2) := e_D_empty h
def X_D_takes : MX := (⟨"OmegaDesk", "takes", "(IIIII)Z"⟩, prog_1_method_8_code, 9, some .boolean, { frames := 7, cells := 2, slots := 12, locals := 111 },
  [(0, .aload_n 0, 1), (1, .iload_n 1, 2), (2, .invokevirtual 34, 5), (5, .astore 6, 7), (7, .iload_n 2, 8), (8, .ifCond .lt 22, 11), (11, .iload_n 2, 12), (12, .bipush 8, 14), (14, .if_icmp .gt 16, 17), (17, .iload 4, 19), (19, .iconst 1, 20), (20, .if_icmp .lt 10, 23), (23, .iload 4, 25), (25, .bipush 8, 27), (27, .if_icmp .le 13, 30), (30, .new 68, 33), (33, .dup, 34), (34, .ldc 90, 36), (36, .invokespecial 72, 39), (39, .athrow, 40), (40, .iload_n 2, 41), (41, .iload_n 3, 42), (42, .invokestatic 92, 45), (45, .ifCond .eq 13, 48), (48, .iload 4, 50), (50, .iload 5, 52), (52, .invokestatic 92, 55), (55, .ifCond .ne 13, 58), (58, .new 68, 61), (61, .dup, 62), (62, .ldc 96, 64), (64, .invokespecial 72, 67), (67, .athrow, 68), (68, .aload 6, 70), (70, .iload_n 2, 71), (71, .iload_n 3, 72), (72, .invokevirtual 98, 75), (75, .istore 7, 77), (77, .aload 6, 79), (79, .iload 4, 81), (81, .iload 5, 83), (83, .invokevirtual 98, 86), (86, .istore 8, 88), (88, .iload 7, 90), (90, .invokestatic 102, 93), (93, .iload 8, 95), (95, .invokestatic 108, 98), (98, .iand, 99), (99, .ifCond .eq 7, 102), (102, .iconst 1, 103), (103, .goto 4, 106), (106, .iconst 0, 107), (107, .ireturn, 108)])
set_option maxRecDepth 20000 in
theorem mk_D_takes : MkX X_D_takes := ⟨by unfold TBk; decide +kernel, by decide +kernel, wb_379, ⟨by decide, by decide⟩, wb_1⟩
theorem cs_D_92 : CS "OmegaDesk" 92 X_D_isWord 2 := ⟨Or.inl wb_381, wb_382, by decide +kernel⟩
theorem cv_D_98 : CV "OmegaDesk" 98 X_A_passageOf 2 0 := ⟨Or.inl wb_385, ⟨wb_386, wb_387⟩, by decide +kernel, F_A, 3, rfl⟩
theorem cs_D_102 : CS "OmegaDesk" 102 X_P_fromStart 1 := ⟨Or.inl wb_389, wb_338, by decide +kernel⟩
theorem cs_D_108 : CS "OmegaDesk" 108 X_P_takenRepeated 1 := ⟨Or.inl wb_390, wb_341, by decide +kernel⟩
def m_D_takes (a1 : Int32) (a2 : Int32) (a3 : Int32) (a4 : Int32) (a5 : Int32) (M : Mm) : Option ((Bool) ⊕ (Nat × Mm)) :=
  bd (m_D_automatonAt a1 M) fun r1 =>
  smr r1 (fun e3 => some (Sum.inr e3)) fun v2 =>
  ck (decide (v2 < 7)) <|
  if a2 < 0 then
    some (Sum.inr (1, M))
  else
    if (8 : Int32) < a2 then
      some (Sum.inr (1, M))
    else
      if a4 < (1 : Int32) then
        some (Sum.inr (1, M))
      else
        if a4 ≤ (8 : Int32) then
          bd (m_D_isWord a2 a3) fun r4 =>
          if (bI r4) = 0 then
            some (Sum.inr (1, M))
          else
            bd (m_D_isWord a4 a5) fun r5 =>
            if (bI r5) = 0 then
              some (Sum.inr (1, M))
            else
              bd (m_A_passageOf v2 a2 a3 M) fun r6 =>
              bd (m_A_passageOf v2 a4 a5 M) fun r7 =>
              bd (m_P_fromStart r6) fun r8 =>
              bd (m_P_takenRepeated r7) fun r9 =>
              if (r8 &&& r9) = 0 then
                some (Sum.inl false)
              else
                some (Sum.inl true)
        else
          some (Sum.inr (1, M))
set_option maxRecDepth 20000 in
theorem e_D_takes {l : Launch} {a1 : Int32} {a2 : Int32} {a3 : Int32} {a4 : Int32} {a5 : Int32} {M : Mm} {r : (Bool) ⊕ (Nat × Mm)}  (h : m_D_takes a1 a2 a3 a4 a5 M = some r) : EvX l X_D_takes [vr 3 0, vi a1, vi a2, vi a3, vi a4, vi a5] M (fun v M2 => Sum.elim (fun q => v = (some (vi (bI q))) ∧ M2 = M) (fun _ => False) r) (fun E M2 => Sum.elim (fun _ => False) (fun q => E = xnm q.1 ∧ M2 = q.2) r) := by
  refine EvX.of mk_D_takes [(0, vr 3 0), (1, vi a1), (2, vi a2), (3, vi a3), (4, vi a4), (5, vi a5)] (fun _ => rfl) (fun _ => (Nat.le_of_ble_eq_true rfl)) ?_
  unfold m_D_takes at h
  refine go_aload_n 0 rfl 0 rfl rfl ?_
  refine go_iload_n 1 rfl 1 rfl rfl ?_
  obtain ⟨x, c, h⟩ := bd_inv h
  rcases x with v | e
  · replace h := smr_l h
    refine go_callXn _ 2 rfl (e_D_automatonAt_n c) (fun _ _ => id) mk_D_automatonAt (by first | decide | exact ok0 (by omega) | exact ok1 (by omega) | exact ok2 (by omega) | exact ok7 (by omega)) rfl cv_D_34 wb_143 rfl ⟨(Nat.le_of_ble_eq_true rfl), (Nat.le_of_ble_eq_true rfl)⟩ ⟨(Nat.le_of_ble_eq_true rfl), (Nat.le_of_ble_eq_true rfl)⟩ (Nat.le_of_ble_eq_true rfl) rfl (1, 6) rfl ?_
    obtain ⟨c7, h⟩ := ck_inv h
    have c7 := of_decide_eq_true c7
    refine go_astore 3 rfl (Nat.le_of_ble_eq_true rfl) [(0, _), (1, _), (2, _), (3, _), (4, _), (5, _), (6, _)] rfl ?_
    refine go_iload_n 4 rfl 2 rfl rfl ?_
    refine go_if_lt 30 5 rfl (by decide) (fun c => ?_) (fun c => ?_)
    · replace h := ite_t c h
      cases h
      exact go_throw 15 rfl rfl rfl rfl rfl ats_D_68_72 (List.mem_of_getElem? (i := 6) rfl) (Nat.le_of_ble_eq_true rfl) (Nat.le_of_ble_eq_true rfl) ⟨(Nat.le_of_ble_eq_true rfl), (Nat.le_of_ble_eq_true rfl)⟩ ⟨(Nat.le_of_ble_eq_true rfl), (Nat.le_of_ble_eq_true rfl)⟩ ⟨rfl, rfl⟩
    · replace h := ite_f c h
      refine go_iload_n 6 rfl 2 rfl rfl ?_
      refine go_bipush 8 7 rfl (by decide) ?_
      refine go_icmp_gt 30 8 rfl (by decide) (fun c => ?_) (fun c => ?_)
      · replace h := ite_t c h
        cases h
        exact go_throw 15 rfl rfl rfl rfl rfl ats_D_68_72 (List.mem_of_getElem? (i := 6) rfl) (Nat.le_of_ble_eq_true rfl) (Nat.le_of_ble_eq_true rfl) ⟨(Nat.le_of_ble_eq_true rfl), (Nat.le_of_ble_eq_true rfl)⟩ ⟨(Nat.le_of_ble_eq_true rfl), (Nat.le_of_ble_eq_true rfl)⟩ ⟨rfl, rfl⟩
      · replace h := ite_f c h
        refine go_iload 9 rfl 4 rfl ?_
        refine go_iconst 1 10 rfl (by decide) ?_
        refine go_icmp_lt 30 11 rfl (by decide) (fun c => ?_) (fun c => ?_)
        · replace h := ite_t c h
          cases h
          exact go_throw 15 rfl rfl rfl rfl rfl ats_D_68_72 (List.mem_of_getElem? (i := 6) rfl) (Nat.le_of_ble_eq_true rfl) (Nat.le_of_ble_eq_true rfl) ⟨(Nat.le_of_ble_eq_true rfl), (Nat.le_of_ble_eq_true rfl)⟩ ⟨(Nat.le_of_ble_eq_true rfl), (Nat.le_of_ble_eq_true rfl)⟩ ⟨rfl, rfl⟩
        · replace h := ite_f c h
          refine go_iload 12 rfl 4 rfl ?_
          refine go_bipush 8 13 rfl (by decide) ?_
          refine go_icmp_le 40 14 rfl (by decide) (fun c => ?_) (fun c => ?_)
          · replace h := ite_t c h
            refine go_iload_n 20 rfl 2 rfl rfl ?_
            refine go_iload_n 21 rfl 3 rfl rfl ?_
            obtain ⟨r4, c, h⟩ := bd_inv h
            refine go_callS1 _ 22 rfl (e_D_isWord c) mk_D_isWord cs_D_92 rfl ⟨(Nat.le_of_ble_eq_true rfl), (Nat.le_of_ble_eq_true rfl)⟩ (Nat.le_of_ble_eq_true rfl) rfl ?_
            refine go_if_eq 58 23 rfl (by decide) (fun c => ?_) (fun c => ?_)
            · replace h := ite_t c h
              cases h
              exact go_throw 28 rfl rfl rfl rfl rfl ats_D_68_72 (List.mem_of_getElem? (i := 7) rfl) (Nat.le_of_ble_eq_true rfl) (Nat.le_of_ble_eq_true rfl) ⟨(Nat.le_of_ble_eq_true rfl), (Nat.le_of_ble_eq_true rfl)⟩ ⟨(Nat.le_of_ble_eq_true rfl), (Nat.le_of_ble_eq_true rfl)⟩ ⟨rfl, rfl⟩
            · replace h := ite_f c h
              refine go_iload 24 rfl 4 rfl ?_
              refine go_iload 25 rfl 5 rfl ?_
              obtain ⟨r5, c, h⟩ := bd_inv h
              refine go_callS1 _ 26 rfl (e_D_isWord c) mk_D_isWord cs_D_92 rfl ⟨(Nat.le_of_ble_eq_true rfl), (Nat.le_of_ble_eq_true rfl)⟩ (Nat.le_of_ble_eq_true rfl) rfl ?_
              refine go_if_ne 68 27 rfl (by decide) (fun c => ?_) (fun c => ?_)
              · replace h := ite_f c h
                refine go_aload 33 rfl 6 rfl ?_
                refine go_iload_n 34 rfl 2 rfl rfl ?_
                refine go_iload_n 35 rfl 3 rfl rfl ?_
                obtain ⟨r6, c, h⟩ := bd_inv h
                refine go_callV1 _ 36 rfl (e_A_passageOf (by omega) c) mk_A_passageOf (by first | decide | exact ok0 (by omega) | exact ok1 (by omega) | exact ok2 (by omega) | exact ok7 (by omega)) rfl cv_D_98 rfl ⟨(Nat.le_of_ble_eq_true rfl), (Nat.le_of_ble_eq_true rfl)⟩ (Nat.le_of_ble_eq_true rfl) rfl ?_
                refine go_istore 37 rfl (Nat.le_of_ble_eq_true rfl) [(0, _), (1, _), (2, _), (3, _), (4, _), (5, _), (6, _), (7, _)] rfl ?_
                refine go_aload 38 rfl 6 rfl ?_
                refine go_iload 39 rfl 4 rfl ?_
                refine go_iload 40 rfl 5 rfl ?_
                obtain ⟨r7, c, h⟩ := bd_inv h
                refine go_callV1 _ 41 rfl (e_A_passageOf (by omega) c) mk_A_passageOf (by first | decide | exact ok0 (by omega) | exact ok1 (by omega) | exact ok2 (by omega) | exact ok7 (by omega)) rfl cv_D_98 rfl ⟨(Nat.le_of_ble_eq_true rfl), (Nat.le_of_ble_eq_true rfl)⟩ (Nat.le_of_ble_eq_true rfl) rfl ?_
                refine go_istore 42 rfl (Nat.le_of_ble_eq_true rfl) [(0, _), (1, _), (2, _), (3, _), (4, _), (5, _), (6, _), (7, _), (8, _)] rfl ?_
                refine go_iload 43 rfl 7 rfl ?_
                obtain ⟨r8, c, h⟩ := bd_inv h
                refine go_callS1 _ 44 rfl (e_P_fromStart c) mk_P_fromStart cs_D_102 rfl ⟨(Nat.le_of_ble_eq_true rfl), (Nat.le_of_ble_eq_true rfl)⟩ (Nat.le_of_ble_eq_true rfl) rfl ?_
                refine go_iload 45 rfl 8 rfl ?_
                obtain ⟨r9, c, h⟩ := bd_inv h
                refine go_callS1 _ 46 rfl (e_P_takenRepeated c) mk_P_takenRepeated cs_D_108 rfl ⟨(Nat.le_of_ble_eq_true rfl), (Nat.le_of_ble_eq_true rfl)⟩ (Nat.le_of_ble_eq_true rfl) rfl ?_
                refine go_iand 47 rfl ?_
                refine go_if_eq 106 48 rfl (by decide) (fun c => ?_) (fun c => ?_)
                · replace h := ite_t c h
                  refine go_iconst 0 51 rfl (by decide) ?_
                  cases h
                  exact go_xret 52 rfl rfl rfl rfl ⟨(Nat.le_of_ble_eq_true rfl), (Nat.le_of_ble_eq_true rfl)⟩ ⟨rfl, rfl⟩
                · replace h := ite_f c h
                  refine go_iconst 1 49 rfl (by decide) ?_
                  refine go_goto 107 50 rfl (by decide) ?_
                  cases h
                  exact go_xret 52 rfl rfl rfl rfl ⟨(Nat.le_of_ble_eq_true rfl), (Nat.le_of_ble_eq_true rfl)⟩ ⟨rfl, rfl⟩
              · replace h := ite_t c h
                cases h
                exact go_throw 28 rfl rfl rfl rfl rfl ats_D_68_72 (List.mem_of_getElem? (i := 7) rfl) (Nat.le_of_ble_eq_true rfl) (Nat.le_of_ble_eq_true rfl) ⟨(Nat.le_of_ble_eq_true rfl), (Nat.le_of_ble_eq_true rfl)⟩ ⟨(Nat.le_of_ble_eq_true rfl), (Nat.le_of_ble_eq_true rfl)⟩ ⟨rfl, rfl⟩
          · replace h := ite_f c h
            cases h
            exact go_throw 15 rfl rfl rfl rfl rfl ats_D_68_72 (List.mem_of_getElem? (i := 6) rfl) (Nat.le_of_ble_eq_true rfl) (Nat.le_of_ble_eq_true rfl) ⟨(Nat.le_of_ble_eq_true rfl), (Nat.le_of_ble_eq_true rfl)⟩ ⟨(Nat.le_of_ble_eq_true rfl), (Nat.le_of_ble_eq_true rfl)⟩ ⟨rfl, rfl⟩
  · replace h := smr_r h
    cases h
    exact go_callXt _ 2 rfl (e_D_automatonAt_t c) (fun _ _ => id) mk_D_automatonAt (by first | decide | exact ok0 (by omega) | exact ok1 (by omega) | exact ok2 (by omega) | exact ok7 (by omega)) rfl cv_D_34 wb_143 rfl ⟨(Nat.le_of_ble_eq_true rfl), (Nat.le_of_ble_eq_true rfl)⟩ ⟨(Nat.le_of_ble_eq_true rfl), (Nat.le_of_ble_eq_true rfl)⟩ (Nat.le_of_ble_eq_true rfl) rfl (1, 6) rfl (gt_out ⟨(Nat.le_of_ble_eq_true rfl), (Nat.le_of_ble_eq_true rfl)⟩ ⟨rfl, rfl⟩)
theorem e_D_takes_n {l : Launch} {a1 : Int32} {a2 : Int32} {a3 : Int32} {a4 : Int32} {a5 : Int32} {M : Mm} {q : Bool}  (h : m_D_takes a1 a2 a3 a4 a5 M = some (Sum.inl q)) : EvX l X_D_takes [vr 3 0, vi a1, vi a2, vi a3, vi a4, vi a5] M (fun v M2 => v = (some (vi (bI q))) ∧ M2 = M) (fun _ _ => False) := e_D_takes h
theorem e_D_takes_t {l : Launch} {a1 : Int32} {a2 : Int32} {a3 : Int32} {a4 : Int32} {a5 : Int32} {M : Mm} {q : Nat × Mm}  (h : m_D_takes a1 a2 a3 a4 a5 M = some (Sum.inr q)) : EvX l X_D_takes [vr 3 0, vi a1, vi a2, vi a3, vi a4, vi a5] M (fun _ _ => False) (fun E M2 => E = xnm q.1 ∧ M2 = q.2) := e_D_takes h
def X_D_included : MX := (⟨"OmegaDesk", "included", "(II)Z"⟩, prog_1_method_9_code, 5, some .boolean, { frames := 7, cells := 3, slots := 18, locals := 123 },
  [(0, .aload_n 0, 1), (1, .iload_n 1, 2), (2, .invokevirtual 34, 5), (5, .astore_n 3, 6), (6, .aload_n 0, 7), (7, .iload_n 2, 8), (8, .invokevirtual 34, 11), (11, .astore 4, 13), (13, .aload 4, 15), (15, .getfield 38, 18), (18, .iconst 4, 19), (19, .if_icmp .lt 13, 22), (22, .new 42, 25), (25, .dup, 26), (26, .ldc 111, 28), (28, .invokespecial 46, 31), (31, .athrow, 32), (32, .aload_n 0, 33), (33, .getfield 23, 36), (36, .aload_n 3, 37), (37, .aload 4, 39), (39, .invokevirtual 113, 42), (42, .ifCond .ne 12, 45), (45, .aload_n 0, 46), (46, .getfield 30, 49), (49, .invokevirtual 117, 52), (52, .iconst 1, 53), (53, .ireturn, 54), (54, .aload_n 0, 55), (55, .getfield 30, 58), (58, .aload_n 3, 59), (59, .aload 4, 61), (61, .invokevirtual 120, 64), (64, .iconst 0, 65), (65, .ireturn, 66)])
set_option maxRecDepth 20000 in
theorem mk_D_included : MkX X_D_included := ⟨by unfold TBk; decide +kernel, by decide +kernel, wb_397, ⟨by decide, by decide⟩, wb_1⟩
theorem fg_D_23 : FG "OmegaDesk" 23 3 2 := ⟨R_D, F_D, 4, rfl, by decide, uw_D, Or.inl wb_123⟩
theorem cv_D_113 : CV "OmegaDesk" 113 X_R_refutes 2 5 := ⟨Or.inl wb_399, ⟨wb_400, wb_401⟩, by decide +kernel, F_R, 7, rfl⟩
theorem fg_D_30 : FG "OmegaDesk" 30 3 3 := ⟨R_D, F_D, 4, rfl, by decide, uw_D, Or.inl wb_124⟩
theorem cv_D_120 : CV "OmegaDesk" 120 X_F_search 2 6 := ⟨Or.inl wb_448, ⟨wb_449, wb_450⟩, by decide +kernel, F_F, 7, rfl⟩
theorem cv_D_117 : CV "OmegaDesk" 117 X_F_forget 0 6 := ⟨Or.inl wb_444, ⟨wb_445, wb_446⟩, by decide +kernel, F_F, 7, rfl⟩
def m_D_included (a1 : Int32) (a2 : Int32) (M : Mm) : Option ((Bool × Mm) ⊕ (Nat × Mm)) :=
  bd (m_D_automatonAt a1 M) fun r1 =>
  smr r1 (fun e3 => some (Sum.inr e3)) fun v2 =>
  ck (decide (v2 < 7)) <|
  bd (m_D_automatonAt a2 M) fun r4 =>
  smr r4 (fun e6 => some (Sum.inr e6)) fun v5 =>
  ck (decide (v5 < 7)) <|
  if (M.1 (0, v5) 0) < (4 : Int32) then
    bd (m_R_refutes v2 v5 M) fun r7 =>
    if (bI r7.1) = 0 then
      bd (m_F_forget  r7.2) fun r9 =>
      some (Sum.inl (true, r9))
    else
      bd (m_F_search v2 v5 r7.2) fun r8 =>
      some (Sum.inl (false, r8))
  else
    some (Sum.inr (2, M))
set_option maxRecDepth 20000 in
theorem e_D_included {l : Launch} {a1 : Int32} {a2 : Int32} {M : Mm} {r : (Bool × Mm) ⊕ (Nat × Mm)}  (h : m_D_included a1 a2 M = some r) : EvX l X_D_included [vr 3 0, vi a1, vi a2] M (fun v M2 => Sum.elim (fun q => v = (some (vi (bI q.1))) ∧ M2 = q.2) (fun _ => False) r) (fun E M2 => Sum.elim (fun _ => False) (fun q => E = xnm q.1 ∧ M2 = q.2) r) := by
  refine EvX.of mk_D_included [(0, vr 3 0), (1, vi a1), (2, vi a2)] (fun _ => rfl) (fun _ => (Nat.le_of_ble_eq_true rfl)) ?_
  unfold m_D_included at h
  refine go_aload_n 0 rfl 0 rfl rfl ?_
  refine go_iload_n 1 rfl 1 rfl rfl ?_
  obtain ⟨x, c, h⟩ := bd_inv h
  rcases x with v | e
  · replace h := smr_l h
    refine go_callXn _ 2 rfl (e_D_automatonAt_n c) (fun _ _ => id) mk_D_automatonAt (by first | decide | exact ok0 (by omega) | exact ok1 (by omega) | exact ok2 (by omega) | exact ok7 (by omega)) rfl cv_D_34 wb_143 rfl ⟨(Nat.le_of_ble_eq_true rfl), (Nat.le_of_ble_eq_true rfl)⟩ ⟨(Nat.le_of_ble_eq_true rfl), (Nat.le_of_ble_eq_true rfl)⟩ (Nat.le_of_ble_eq_true rfl) rfl (1, 6) rfl ?_
    obtain ⟨c7, h⟩ := ck_inv h
    have c7 := of_decide_eq_true c7
    refine go_astore_n 3 rfl rfl (Nat.le_of_ble_eq_true rfl) [(0, _), (1, _), (2, _), (3, _)] rfl ?_
    refine go_aload_n 4 rfl 0 rfl rfl ?_
    refine go_iload_n 5 rfl 2 rfl rfl ?_
    obtain ⟨x, c, h⟩ := bd_inv h
    rcases x with v | e
    · replace h := smr_l h
      refine go_callXn _ 6 rfl (e_D_automatonAt_n c) (fun _ _ => id) mk_D_automatonAt (by first | decide | exact ok0 (by omega) | exact ok1 (by omega) | exact ok2 (by omega) | exact ok7 (by omega)) rfl cv_D_34 wb_143 rfl ⟨(Nat.le_of_ble_eq_true rfl), (Nat.le_of_ble_eq_true rfl)⟩ ⟨(Nat.le_of_ble_eq_true rfl), (Nat.le_of_ble_eq_true rfl)⟩ (Nat.le_of_ble_eq_true rfl) rfl (2, 12) rfl ?_
      obtain ⟨c7, h⟩ := ck_inv h
      have c7 := of_decide_eq_true c7
      refine go_astore 7 rfl (Nat.le_of_ble_eq_true rfl) [(0, _), (1, _), (2, _), (3, _), (4, _)] rfl ?_
      refine go_aload 8 rfl 4 rfl ?_
      refine go_getfield 0 _ 9 rfl (by first | decide | exact ok0 (by omega) | exact ok1 (by omega) | exact ok2 (by omega) | exact ok7 (by omega)) rfl fg_D_38 rfl ?_
      refine go_iconst 4 10 rfl (by decide) ?_
      refine go_icmp_lt 32 11 rfl (by decide) (fun c => ?_) (fun c => ?_)
      · replace h := ite_t c h
        refine go_aload_n 17 rfl 0 rfl rfl ?_
        refine go_getfield 2 _ 18 rfl (by first | decide | exact ok0 (by omega) | exact ok1 (by omega) | exact ok2 (by omega) | exact ok7 (by omega)) rfl fg_D_23 rfl ?_
        refine go_aload_n 19 rfl 3 rfl rfl ?_
        refine go_aload 20 rfl 4 rfl ?_
        obtain ⟨r7, c, h⟩ := bd_inv h
        refine go_callV1 _ 21 rfl (e_R_refutes (by omega) (by omega) c) mk_R_refutes (by first | decide | exact ok0 (by omega) | exact ok1 (by omega) | exact ok2 (by omega) | exact ok7 (by omega)) rfl cv_D_113 rfl ⟨(Nat.le_of_ble_eq_true rfl), (Nat.le_of_ble_eq_true rfl)⟩ (Nat.le_of_ble_eq_true rfl) rfl ?_
        refine go_if_ne 54 22 rfl (by decide) (fun c => ?_) (fun c => ?_)
        · replace h := ite_f c h
          refine go_aload_n 28 rfl 0 rfl rfl ?_
          refine go_getfield 3 _ 29 rfl (by first | decide | exact ok0 (by omega) | exact ok1 (by omega) | exact ok2 (by omega) | exact ok7 (by omega)) rfl fg_D_30 rfl ?_
          refine go_aload_n 30 rfl 3 rfl rfl ?_
          refine go_aload 31 rfl 4 rfl ?_
          obtain ⟨r8, c, h⟩ := bd_inv h
          refine go_callV1 _ 32 rfl (e_F_search (by omega) (by omega) c) mk_F_search (by first | decide | exact ok0 (by omega) | exact ok1 (by omega) | exact ok2 (by omega) | exact ok7 (by omega)) rfl cv_D_120 rfl ⟨(Nat.le_of_ble_eq_true rfl), (Nat.le_of_ble_eq_true rfl)⟩ (Nat.le_of_ble_eq_true rfl) rfl ?_
          refine go_iconst 0 33 rfl (by decide) ?_
          cases h
          exact go_xret 34 rfl rfl rfl rfl ⟨(Nat.le_of_ble_eq_true rfl), (Nat.le_of_ble_eq_true rfl)⟩ ⟨rfl, rfl⟩
        · replace h := ite_t c h
          refine go_aload_n 23 rfl 0 rfl rfl ?_
          refine go_getfield 3 _ 24 rfl (by first | decide | exact ok0 (by omega) | exact ok1 (by omega) | exact ok2 (by omega) | exact ok7 (by omega)) rfl fg_D_30 rfl ?_
          obtain ⟨r9, c, h⟩ := bd_inv h
          refine go_callV1 _ 25 rfl (e_F_forget c) mk_F_forget (by first | decide | exact ok0 (by omega) | exact ok1 (by omega) | exact ok2 (by omega) | exact ok7 (by omega)) rfl cv_D_117 rfl ⟨(Nat.le_of_ble_eq_true rfl), (Nat.le_of_ble_eq_true rfl)⟩ (Nat.le_of_ble_eq_true rfl) rfl ?_
          refine go_iconst 1 26 rfl (by decide) ?_
          cases h
          exact go_xret 27 rfl rfl rfl rfl ⟨(Nat.le_of_ble_eq_true rfl), (Nat.le_of_ble_eq_true rfl)⟩ ⟨rfl, rfl⟩
      · replace h := ite_f c h
        cases h
        exact go_throw 12 rfl rfl rfl rfl rfl ats_D_42_46 (List.mem_of_getElem? (i := 8) rfl) (Nat.le_of_ble_eq_true rfl) (Nat.le_of_ble_eq_true rfl) ⟨(Nat.le_of_ble_eq_true rfl), (Nat.le_of_ble_eq_true rfl)⟩ ⟨(Nat.le_of_ble_eq_true rfl), (Nat.le_of_ble_eq_true rfl)⟩ ⟨rfl, rfl⟩
    · replace h := smr_r h
      cases h
      exact go_callXt _ 6 rfl (e_D_automatonAt_t c) (fun _ _ => id) mk_D_automatonAt (by first | decide | exact ok0 (by omega) | exact ok1 (by omega) | exact ok2 (by omega) | exact ok7 (by omega)) rfl cv_D_34 wb_143 rfl ⟨(Nat.le_of_ble_eq_true rfl), (Nat.le_of_ble_eq_true rfl)⟩ ⟨(Nat.le_of_ble_eq_true rfl), (Nat.le_of_ble_eq_true rfl)⟩ (Nat.le_of_ble_eq_true rfl) rfl (2, 12) rfl (gt_out ⟨(Nat.le_of_ble_eq_true rfl), (Nat.le_of_ble_eq_true rfl)⟩ ⟨rfl, rfl⟩)
  · replace h := smr_r h
    cases h
    exact go_callXt _ 2 rfl (e_D_automatonAt_t c) (fun _ _ => id) mk_D_automatonAt (by first | decide | exact ok0 (by omega) | exact ok1 (by omega) | exact ok2 (by omega) | exact ok7 (by omega)) rfl cv_D_34 wb_143 rfl ⟨(Nat.le_of_ble_eq_true rfl), (Nat.le_of_ble_eq_true rfl)⟩ ⟨(Nat.le_of_ble_eq_true rfl), (Nat.le_of_ble_eq_true rfl)⟩ (Nat.le_of_ble_eq_true rfl) rfl (1, 6) rfl (gt_out ⟨(Nat.le_of_ble_eq_true rfl), (Nat.le_of_ble_eq_true rfl)⟩ ⟨rfl, rfl⟩)
theorem e_D_included_n {l : Launch} {a1 : Int32} {a2 : Int32} {M : Mm} {q : Bool × Mm}  (h : m_D_included a1 a2 M = some (Sum.inl q)) : EvX l X_D_included [vr 3 0, vi a1, vi a2] M (fun v M2 => v = (some (vi (bI q.1))) ∧ M2 = q.2) (fun _ _ => False) := e_D_included h
theorem e_D_included_t {l : Launch} {a1 : Int32} {a2 : Int32} {M : Mm} {q : Nat × Mm}  (h : m_D_included a1 a2 M = some (Sum.inr q)) : EvX l X_D_included [vr 3 0, vi a1, vi a2] M (fun _ _ => False) (fun E M2 => E = xnm q.1 ∧ M2 = q.2) := e_D_included h
def X_D_witness : MX := (⟨"OmegaDesk", "witness", "(I)I"⟩, prog_1_method_10_code, 2, some .int, { frames := 6, cells := 1, slots := 6, locals := 90 },
  [(0, .iload_n 1, 1), (1, .ifCond .lt 8, 4), (4, .iload_n 1, 5), (5, .iconst 3, 6), (6, .if_icmp .le 13, 9), (9, .new 68, 12), (12, .dup, 13), (13, .ldc 124, 15), (15, .invokespecial 72, 18), (18, .athrow, 19), (19, .aload_n 0, 20), (20, .getfield 30, 23), (23, .getfield 126, 26), (26, .ifCond .ne 13, 29), (29, .new 130, 32), (32, .dup, 33), (33, .ldc 132, 35), (35, .invokespecial 134, 38), (38, .athrow, 39), (39, .iload_n 1, 40), (68, .aload_n 0, 69), (69, .getfield 30, 72), (72, .getfield 135, 75), (75, .ireturn, 76), (76, .aload_n 0, 77), (77, .getfield 30, 80), (80, .getfield 138, 83), (83, .ireturn, 84), (84, .aload_n 0, 85), (85, .getfield 30, 88), (88, .getfield 141, 91), (91, .ireturn, 92), (92, .aload_n 0, 93), (93, .getfield 30, 96), (96, .getfield 144, 99), (99, .ireturn, 100)])
set_option maxRecDepth 20000 in
theorem mk_D_witness : MkX X_D_witness := ⟨by unfold TBk; decide +kernel, by decide +kernel, wb_479, ⟨by decide, by decide⟩, wb_1⟩
theorem ds_D_witness : decode prog_1_method_10_code 40 = .ok (.tableswitch 52 0 2 #[28, 36, 44], 28) := by decide +kernel
theorem fg_D_126 : FG "OmegaDesk" 126 6 2 := ⟨R_F, F_F, 7, rfl, by decide, uw_F, Or.inr ⟨_, nw_97⟩⟩
theorem fg_D_135 : FG "OmegaDesk" 135 6 3 := ⟨R_F, F_F, 7, rfl, by decide, uw_F, Or.inr ⟨_, nw_99⟩⟩
theorem fg_D_138 : FG "OmegaDesk" 138 6 4 := ⟨R_F, F_F, 7, rfl, by decide, uw_F, Or.inr ⟨_, nw_101⟩⟩
theorem fg_D_141 : FG "OmegaDesk" 141 6 5 := ⟨R_F, F_F, 7, rfl, by decide, uw_F, Or.inr ⟨_, nw_103⟩⟩
theorem fg_D_144 : FG "OmegaDesk" 144 6 6 := ⟨R_F, F_F, 7, rfl, by decide, uw_F, Or.inr ⟨_, nw_105⟩⟩
theorem atn_D_130_134 : ATN "OmegaDesk" 130 134 := ⟨wb_481, wb_16, by decide +kernel, by decide +kernel⟩
def m_D_witness (a1 : Int32) (M : Mm) : Option ((Int32) ⊕ (Nat × Mm)) :=
  if a1 < 0 then
    some (Sum.inr (1, M))
  else
    if a1 ≤ (3 : Int32) then
      if (M.1 (6, 0) 2) = 0 then
        some (Sum.inr (3, M))
      else
        if a1 = 0 then
          some (Sum.inl (M.1 (6, 0) 3))
        else
        if a1 = 1 then
          some (Sum.inl (M.1 (6, 0) 4))
        else
        if a1 = 2 then
          some (Sum.inl (M.1 (6, 0) 5))
        else
        some (Sum.inl (M.1 (6, 0) 6))
    else
      some (Sum.inr (1, M))
set_option maxRecDepth 20000 in
theorem e_D_witness {l : Launch} {a1 : Int32} {M : Mm} {r : (Int32) ⊕ (Nat × Mm)}  (h : m_D_witness a1 M = some r) : EvX l X_D_witness [vr 3 0, vi a1] M (fun v M2 => Sum.elim (fun q => v = (some (vi q)) ∧ M2 = M) (fun _ => False) r) (fun E M2 => Sum.elim (fun _ => False) (fun q => E = xnm q.1 ∧ M2 = q.2) r) := by
  refine EvX.of mk_D_witness [(0, vr 3 0), (1, vi a1)] (fun _ => rfl) (fun _ => (Nat.le_of_ble_eq_true rfl)) ?_
  unfold m_D_witness at h
  refine go_iload_n 0 rfl 1 rfl rfl ?_
  refine go_if_lt 9 1 rfl (by decide) (fun c => ?_) (fun c => ?_)
  · replace h := ite_t c h
    cases h
    exact go_throw 5 rfl rfl rfl rfl rfl ats_D_68_72 (List.mem_of_getElem? (i := 9) rfl) (Nat.le_of_ble_eq_true rfl) (Nat.le_of_ble_eq_true rfl) ⟨(Nat.le_of_ble_eq_true rfl), (Nat.le_of_ble_eq_true rfl)⟩ ⟨(Nat.le_of_ble_eq_true rfl), (Nat.le_of_ble_eq_true rfl)⟩ ⟨rfl, rfl⟩
  · replace h := ite_f c h
    refine go_iload_n 2 rfl 1 rfl rfl ?_
    refine go_iconst 3 3 rfl (by decide) ?_
    refine go_icmp_le 19 4 rfl (by decide) (fun c => ?_) (fun c => ?_)
    · replace h := ite_t c h
      refine go_aload_n 10 rfl 0 rfl rfl ?_
      refine go_getfield 3 _ 11 rfl (by first | decide | exact ok0 (by omega) | exact ok1 (by omega) | exact ok2 (by omega) | exact ok7 (by omega)) rfl fg_D_30 rfl ?_
      refine go_getfield 2 _ 12 rfl (by first | decide | exact ok0 (by omega) | exact ok1 (by omega) | exact ok2 (by omega) | exact ok7 (by omega)) rfl fg_D_126 rfl ?_
      refine go_if_ne 39 13 rfl (by decide) (fun c => ?_) (fun c => ?_)
      · replace h := ite_f c h
        refine go_iload_n 19 rfl 1 rfl rfl ?_
        refine go_switch3 68 76 84 92 ds_D_witness (by decide) (by decide) (by decide) (by decide) (fun c => ?_) (fun c => ?_) (fun c => ?_) (fun c c1 c2 => ?_)
        · replace h := ite_t c h
          refine go_aload_n 20 rfl 0 rfl rfl ?_
          refine go_getfield 3 _ 21 rfl (by first | decide | exact ok0 (by omega) | exact ok1 (by omega) | exact ok2 (by omega) | exact ok7 (by omega)) rfl fg_D_30 rfl ?_
          refine go_getfield 3 _ 22 rfl (by first | decide | exact ok0 (by omega) | exact ok1 (by omega) | exact ok2 (by omega) | exact ok7 (by omega)) rfl fg_D_135 rfl ?_
          cases h
          exact go_xret 23 rfl rfl rfl rfl ⟨(Nat.le_of_ble_eq_true rfl), (Nat.le_of_ble_eq_true rfl)⟩ ⟨rfl, rfl⟩
        · replace h := ite_t c (ite_f (by rw [c]; decide) h)
          refine go_aload_n 24 rfl 0 rfl rfl ?_
          refine go_getfield 3 _ 25 rfl (by first | decide | exact ok0 (by omega) | exact ok1 (by omega) | exact ok2 (by omega) | exact ok7 (by omega)) rfl fg_D_30 rfl ?_
          refine go_getfield 4 _ 26 rfl (by first | decide | exact ok0 (by omega) | exact ok1 (by omega) | exact ok2 (by omega) | exact ok7 (by omega)) rfl fg_D_138 rfl ?_
          cases h
          exact go_xret 27 rfl rfl rfl rfl ⟨(Nat.le_of_ble_eq_true rfl), (Nat.le_of_ble_eq_true rfl)⟩ ⟨rfl, rfl⟩
        · replace h := ite_t c (ite_f (by rw [c]; decide) (ite_f (by rw [c]; decide) h))
          refine go_aload_n 28 rfl 0 rfl rfl ?_
          refine go_getfield 3 _ 29 rfl (by first | decide | exact ok0 (by omega) | exact ok1 (by omega) | exact ok2 (by omega) | exact ok7 (by omega)) rfl fg_D_30 rfl ?_
          refine go_getfield 5 _ 30 rfl (by first | decide | exact ok0 (by omega) | exact ok1 (by omega) | exact ok2 (by omega) | exact ok7 (by omega)) rfl fg_D_141 rfl ?_
          cases h
          exact go_xret 31 rfl rfl rfl rfl ⟨(Nat.le_of_ble_eq_true rfl), (Nat.le_of_ble_eq_true rfl)⟩ ⟨rfl, rfl⟩
        · replace h := ite_f c2 (ite_f c1 (ite_f c h))
          refine go_aload_n 32 rfl 0 rfl rfl ?_
          refine go_getfield 3 _ 33 rfl (by first | decide | exact ok0 (by omega) | exact ok1 (by omega) | exact ok2 (by omega) | exact ok7 (by omega)) rfl fg_D_30 rfl ?_
          refine go_getfield 6 _ 34 rfl (by first | decide | exact ok0 (by omega) | exact ok1 (by omega) | exact ok2 (by omega) | exact ok7 (by omega)) rfl fg_D_144 rfl ?_
          cases h
          exact go_xret 35 rfl rfl rfl rfl ⟨(Nat.le_of_ble_eq_true rfl), (Nat.le_of_ble_eq_true rfl)⟩ ⟨rfl, rfl⟩
      · replace h := ite_t c h
        cases h
        exact go_throwN 14 rfl rfl rfl rfl rfl atn_D_130_134 (List.mem_of_getElem? (i := 10) rfl) (Nat.le_of_ble_eq_true rfl) (Nat.le_of_ble_eq_true rfl) ⟨(Nat.le_of_ble_eq_true rfl), (Nat.le_of_ble_eq_true rfl)⟩ ⟨(Nat.le_of_ble_eq_true rfl), (Nat.le_of_ble_eq_true rfl)⟩ ⟨rfl, rfl⟩
    · replace h := ite_f c h
      cases h
      exact go_throw 5 rfl rfl rfl rfl rfl ats_D_68_72 (List.mem_of_getElem? (i := 9) rfl) (Nat.le_of_ble_eq_true rfl) (Nat.le_of_ble_eq_true rfl) ⟨(Nat.le_of_ble_eq_true rfl), (Nat.le_of_ble_eq_true rfl)⟩ ⟨(Nat.le_of_ble_eq_true rfl), (Nat.le_of_ble_eq_true rfl)⟩ ⟨rfl, rfl⟩
theorem e_D_witness_n {l : Launch} {a1 : Int32} {M : Mm} {q : Int32}  (h : m_D_witness a1 M = some (Sum.inl q)) : EvX l X_D_witness [vr 3 0, vi a1] M (fun v M2 => v = (some (vi q)) ∧ M2 = M) (fun _ _ => False) := e_D_witness h
theorem e_D_witness_t {l : Launch} {a1 : Int32} {M : Mm} {q : Nat × Mm}  (h : m_D_witness a1 M = some (Sum.inr q)) : EvX l X_D_witness [vr 3 0, vi a1] M (fun _ _ => False) (fun E M2 => E = xnm q.1 ∧ M2 = q.2) := e_D_witness h
def X_D_states : MX := (⟨"OmegaDesk", "states", "(I)I"⟩, prog_1_method_11_code, 2, some .int, { frames := 7, cells := 1, slots := 6, locals := 111 },
  [(0, .aload_n 0, 1), (1, .iload_n 1, 2), (2, .invokevirtual 34, 5), (5, .getfield 38, 8), (8, .ireturn, 9)])
set_option maxRecDepth 20000 in
theorem mk_D_states : MkX X_D_states := ⟨by unfold TBk; decide +kernel, by decide +kernel, wb_503, ⟨by decide, by decide⟩, wb_1⟩
def m_D_states (a1 : Int32) (M : Mm) : Option ((Int32) ⊕ (Nat × Mm)) :=
  bd (m_D_automatonAt a1 M) fun r1 =>
  smr r1 (fun e3 => some (Sum.inr e3)) fun v2 =>
  ck (decide (v2 < 7)) <|
  some (Sum.inl (M.1 (0, v2) 0))
set_option maxRecDepth 20000 in
theorem e_D_states {l : Launch} {a1 : Int32} {M : Mm} {r : (Int32) ⊕ (Nat × Mm)}  (h : m_D_states a1 M = some r) : EvX l X_D_states [vr 3 0, vi a1] M (fun v M2 => Sum.elim (fun q => v = (some (vi q)) ∧ M2 = M) (fun _ => False) r) (fun E M2 => Sum.elim (fun _ => False) (fun q => E = xnm q.1 ∧ M2 = q.2) r) := by
  refine EvX.of mk_D_states [(0, vr 3 0), (1, vi a1)] (fun _ => rfl) (fun _ => (Nat.le_of_ble_eq_true rfl)) ?_
  unfold m_D_states at h
  refine go_aload_n 0 rfl 0 rfl rfl ?_
  refine go_iload_n 1 rfl 1 rfl rfl ?_
  obtain ⟨x, c, h⟩ := bd_inv h
  rcases x with v | e
  · replace h := smr_l h
    refine go_callXn _ 2 rfl (e_D_automatonAt_n c) (fun _ _ => id) mk_D_automatonAt (by first | decide | exact ok0 (by omega) | exact ok1 (by omega) | exact ok2 (by omega) | exact ok7 (by omega)) rfl cv_D_34 wb_143 rfl ⟨(Nat.le_of_ble_eq_true rfl), (Nat.le_of_ble_eq_true rfl)⟩ ⟨(Nat.le_of_ble_eq_true rfl), (Nat.le_of_ble_eq_true rfl)⟩ (Nat.le_of_ble_eq_true rfl) rfl (1, 6) rfl ?_
    obtain ⟨c7, h⟩ := ck_inv h
    have c7 := of_decide_eq_true c7
    refine go_getfield 0 _ 3 rfl (by first | decide | exact ok0 (by omega) | exact ok1 (by omega) | exact ok2 (by omega) | exact ok7 (by omega)) rfl fg_D_38 rfl ?_
    cases h
    exact go_xret 4 rfl rfl rfl rfl ⟨(Nat.le_of_ble_eq_true rfl), (Nat.le_of_ble_eq_true rfl)⟩ ⟨rfl, rfl⟩
  · replace h := smr_r h
    cases h
    exact go_callXt _ 2 rfl (e_D_automatonAt_t c) (fun _ _ => id) mk_D_automatonAt (by first | decide | exact ok0 (by omega) | exact ok1 (by omega) | exact ok2 (by omega) | exact ok7 (by omega)) rfl cv_D_34 wb_143 rfl ⟨(Nat.le_of_ble_eq_true rfl), (Nat.le_of_ble_eq_true rfl)⟩ ⟨(Nat.le_of_ble_eq_true rfl), (Nat.le_of_ble_eq_true rfl)⟩ (Nat.le_of_ble_eq_true rfl) rfl (1, 6) rfl (gt_out ⟨(Nat.le_of_ble_eq_true rfl), (Nat.le_of_ble_eq_true rfl)⟩ ⟨rfl, rfl⟩)
theorem e_D_states_n {l : Launch} {a1 : Int32} {M : Mm} {q : Int32}  (h : m_D_states a1 M = some (Sum.inl q)) : EvX l X_D_states [vr 3 0, vi a1] M (fun v M2 => v = (some (vi q)) ∧ M2 = M) (fun _ _ => False) := e_D_states h
theorem e_D_states_t {l : Launch} {a1 : Int32} {M : Mm} {q : Nat × Mm}  (h : m_D_states a1 M = some (Sum.inr q)) : EvX l X_D_states [vr 3 0, vi a1] M (fun _ _ => False) (fun E M2 => E = xnm q.1 ∧ M2 = q.2) := e_D_states h
def X_D_good : MX := (⟨"OmegaDesk", "good", "(II)Z"⟩, prog_1_method_12_code, 4, some .boolean, { frames := 7, cells := 2, slots := 12, locals := 111 },
  [(0, .aload_n 0, 1), (1, .iload_n 1, 2), (2, .invokevirtual 34, 5), (5, .astore_n 3, 6), (6, .aload_n 3, 7), (7, .iload_n 2, 8), (8, .invokevirtual 147, 11), (11, .ifCond .ne 13, 14), (14, .new 68, 17), (17, .dup, 18), (18, .ldc 151, 20), (20, .invokespecial 72, 23), (23, .athrow, 24), (24, .aload_n 3, 25), (25, .iload_n 2, 26), (26, .invokevirtual 153, 29), (29, .ireturn, 30)])
set_option maxRecDepth 20000 in
theorem mk_D_good : MkX X_D_good := ⟨by unfold TBk; decide +kernel, by decide +kernel, wb_510, ⟨by decide, by decide⟩, wb_1⟩
theorem cv_D_153 : CV "OmegaDesk" 153 X_A_isGood 1 0 := ⟨Or.inl wb_511, ⟨wb_292, wb_293⟩, by decide +kernel, F_A, 3, rfl⟩
def m_D_good (a1 : Int32) (a2 : Int32) (M : Mm) : Option ((Bool) ⊕ (Nat × Mm)) :=
  bd (m_D_automatonAt a1 M) fun r1 =>
  smr r1 (fun e3 => some (Sum.inr e3)) fun v2 =>
  ck (decide (v2 < 7)) <|
  bd (m_A_hasState v2 a2 M) fun r4 =>
  if (bI r4) = 0 then
    some (Sum.inr (1, M))
  else
    bd (m_A_isGood v2 a2 M) fun r5 =>
    some (Sum.inl r5)
set_option maxRecDepth 20000 in
theorem e_D_good {l : Launch} {a1 : Int32} {a2 : Int32} {M : Mm} {r : (Bool) ⊕ (Nat × Mm)}  (h : m_D_good a1 a2 M = some r) : EvX l X_D_good [vr 3 0, vi a1, vi a2] M (fun v M2 => Sum.elim (fun q => v = (some (vi (bI q))) ∧ M2 = M) (fun _ => False) r) (fun E M2 => Sum.elim (fun _ => False) (fun q => E = xnm q.1 ∧ M2 = q.2) r) := by
  refine EvX.of mk_D_good [(0, vr 3 0), (1, vi a1), (2, vi a2)] (fun _ => rfl) (fun _ => (Nat.le_of_ble_eq_true rfl)) ?_
  unfold m_D_good at h
  refine go_aload_n 0 rfl 0 rfl rfl ?_
  refine go_iload_n 1 rfl 1 rfl rfl ?_
  obtain ⟨x, c, h⟩ := bd_inv h
  rcases x with v | e
  · replace h := smr_l h
    refine go_callXn _ 2 rfl (e_D_automatonAt_n c) (fun _ _ => id) mk_D_automatonAt (by first | decide | exact ok0 (by omega) | exact ok1 (by omega) | exact ok2 (by omega) | exact ok7 (by omega)) rfl cv_D_34 wb_143 rfl ⟨(Nat.le_of_ble_eq_true rfl), (Nat.le_of_ble_eq_true rfl)⟩ ⟨(Nat.le_of_ble_eq_true rfl), (Nat.le_of_ble_eq_true rfl)⟩ (Nat.le_of_ble_eq_true rfl) rfl (1, 6) rfl ?_
    obtain ⟨c7, h⟩ := ck_inv h
    have c7 := of_decide_eq_true c7
    refine go_astore_n 3 rfl rfl (Nat.le_of_ble_eq_true rfl) [(0, _), (1, _), (2, _), (3, _)] rfl ?_
    refine go_aload_n 4 rfl 3 rfl rfl ?_
    refine go_iload_n 5 rfl 2 rfl rfl ?_
    obtain ⟨r4, c, h⟩ := bd_inv h
    refine go_callV1 _ 6 rfl (e_A_hasState (by omega) c) mk_A_hasState (by first | decide | exact ok0 (by omega) | exact ok1 (by omega) | exact ok2 (by omega) | exact ok7 (by omega)) rfl cv_D_147 rfl ⟨(Nat.le_of_ble_eq_true rfl), (Nat.le_of_ble_eq_true rfl)⟩ (Nat.le_of_ble_eq_true rfl) rfl ?_
    refine go_if_ne 24 7 rfl (by decide) (fun c => ?_) (fun c => ?_)
    · replace h := ite_f c h
      refine go_aload_n 13 rfl 3 rfl rfl ?_
      refine go_iload_n 14 rfl 2 rfl rfl ?_
      obtain ⟨r5, c, h⟩ := bd_inv h
      refine go_callV1 _ 15 rfl (e_A_isGood (by omega) c) mk_A_isGood (by first | decide | exact ok0 (by omega) | exact ok1 (by omega) | exact ok2 (by omega) | exact ok7 (by omega)) rfl cv_D_153 rfl ⟨(Nat.le_of_ble_eq_true rfl), (Nat.le_of_ble_eq_true rfl)⟩ (Nat.le_of_ble_eq_true rfl) rfl ?_
      cases h
      exact go_xret 16 rfl rfl rfl (nbI _) ⟨(Nat.le_of_ble_eq_true rfl), (Nat.le_of_ble_eq_true rfl)⟩ ⟨rfl, rfl⟩
    · replace h := ite_t c h
      cases h
      exact go_throw 8 rfl rfl rfl rfl rfl ats_D_68_72 (List.mem_of_getElem? (i := 2) rfl) (Nat.le_of_ble_eq_true rfl) (Nat.le_of_ble_eq_true rfl) ⟨(Nat.le_of_ble_eq_true rfl), (Nat.le_of_ble_eq_true rfl)⟩ ⟨(Nat.le_of_ble_eq_true rfl), (Nat.le_of_ble_eq_true rfl)⟩ ⟨rfl, rfl⟩
  · replace h := smr_r h
    cases h
    exact go_callXt _ 2 rfl (e_D_automatonAt_t c) (fun _ _ => id) mk_D_automatonAt (by first | decide | exact ok0 (by omega) | exact ok1 (by omega) | exact ok2 (by omega) | exact ok7 (by omega)) rfl cv_D_34 wb_143 rfl ⟨(Nat.le_of_ble_eq_true rfl), (Nat.le_of_ble_eq_true rfl)⟩ ⟨(Nat.le_of_ble_eq_true rfl), (Nat.le_of_ble_eq_true rfl)⟩ (Nat.le_of_ble_eq_true rfl) rfl (1, 6) rfl (gt_out ⟨(Nat.le_of_ble_eq_true rfl), (Nat.le_of_ble_eq_true rfl)⟩ ⟨rfl, rfl⟩)
theorem e_D_good_n {l : Launch} {a1 : Int32} {a2 : Int32} {M : Mm} {q : Bool}  (h : m_D_good a1 a2 M = some (Sum.inl q)) : EvX l X_D_good [vr 3 0, vi a1, vi a2] M (fun v M2 => v = (some (vi (bI q))) ∧ M2 = M) (fun _ _ => False) := e_D_good h
theorem e_D_good_t {l : Launch} {a1 : Int32} {a2 : Int32} {M : Mm} {q : Nat × Mm}  (h : m_D_good a1 a2 M = some (Sum.inr q)) : EvX l X_D_good [vr 3 0, vi a1, vi a2] M (fun _ _ => False) (fun E M2 => E = xnm q.1 ∧ M2 = q.2) := e_D_good h
def X_D_has : MX := (⟨"OmegaDesk", "has", "(IIII)Z"⟩, prog_1_method_13_code, 5, some .boolean, { frames := 8, cells := 2, slots := 12, locals := 136 },
  [(0, .aload_n 0, 1), (1, .iload_n 1, 2), (2, .iload_n 2, 3), (3, .iload_n 3, 4), (4, .iload 4, 6), (6, .invokevirtual 53, 9), (9, .iload_n 2, 10), (10, .iload_n 3, 11), (11, .iload 4, 13), (13, .invokevirtual 57, 16), (16, .ireturn, 17)])
set_option maxRecDepth 20000 in
theorem mk_D_has : MkX X_D_has := ⟨by unfold TBk; decide +kernel, by decide +kernel, wb_518, ⟨by decide, by decide⟩, wb_1⟩
def m_D_has (a1 : Int32) (a2 : Int32) (a3 : Int32) (a4 : Int32) (M : Mm) : Option ((Bool) ⊕ (Nat × Mm)) :=
  bd (m_D_automatonWithPlaces a1 a2 a3 a4 M) fun r1 =>
  smr r1 (fun e3 => some (Sum.inr e3)) fun v2 =>
  ck (decide (v2 < 7)) <|
  bd (m_A_joins v2 a2 a3 a4 M) fun r4 =>
  some (Sum.inl r4)
set_option maxRecDepth 20000 in
theorem e_D_has {l : Launch} {a1 : Int32} {a2 : Int32} {a3 : Int32} {a4 : Int32} {M : Mm} {r : (Bool) ⊕ (Nat × Mm)}  (h : m_D_has a1 a2 a3 a4 M = some r) : EvX l X_D_has [vr 3 0, vi a1, vi a2, vi a3, vi a4] M (fun v M2 => Sum.elim (fun q => v = (some (vi (bI q))) ∧ M2 = M) (fun _ => False) r) (fun E M2 => Sum.elim (fun _ => False) (fun q => E = xnm q.1 ∧ M2 = q.2) r) := by
  refine EvX.of mk_D_has [(0, vr 3 0), (1, vi a1), (2, vi a2), (3, vi a3), (4, vi a4)] (fun _ => rfl) (fun _ => (Nat.le_of_ble_eq_true rfl)) ?_
  unfold m_D_has at h
  refine go_aload_n 0 rfl 0 rfl rfl ?_
  refine go_iload_n 1 rfl 1 rfl rfl ?_
  refine go_iload_n 2 rfl 2 rfl rfl ?_
  refine go_iload_n 3 rfl 3 rfl rfl ?_
  refine go_iload 4 rfl 4 rfl ?_
  obtain ⟨x, c, h⟩ := bd_inv h
  rcases x with v | e
  · replace h := smr_l h
    refine go_callXn _ 5 rfl (e_D_automatonWithPlaces_n c) (fun _ _ => id) mk_D_automatonWithPlaces (by first | decide | exact ok0 (by omega) | exact ok1 (by omega) | exact ok2 (by omega) | exact ok7 (by omega)) rfl cv_D_53 wb_242 rfl ⟨(Nat.le_of_ble_eq_true rfl), (Nat.le_of_ble_eq_true rfl)⟩ ⟨(Nat.le_of_ble_eq_true rfl), (Nat.le_of_ble_eq_true rfl)⟩ (Nat.le_of_ble_eq_true rfl) rfl (2, 12) rfl ?_
    obtain ⟨c7, h⟩ := ck_inv h
    have c7 := of_decide_eq_true c7
    refine go_iload_n 6 rfl 2 rfl rfl ?_
    refine go_iload_n 7 rfl 3 rfl rfl ?_
    refine go_iload 8 rfl 4 rfl ?_
    obtain ⟨r4, c, h⟩ := bd_inv h
    refine go_callV1 _ 9 rfl (e_A_joins (by omega) c) mk_A_joins (by first | decide | exact ok0 (by omega) | exact ok1 (by omega) | exact ok2 (by omega) | exact ok7 (by omega)) rfl cv_D_57 rfl ⟨(Nat.le_of_ble_eq_true rfl), (Nat.le_of_ble_eq_true rfl)⟩ (Nat.le_of_ble_eq_true rfl) rfl ?_
    cases h
    exact go_xret 10 rfl rfl rfl (nbI _) ⟨(Nat.le_of_ble_eq_true rfl), (Nat.le_of_ble_eq_true rfl)⟩ ⟨rfl, rfl⟩
  · replace h := smr_r h
    cases h
    exact go_callXt _ 5 rfl (e_D_automatonWithPlaces_t c) (fun _ _ => id) mk_D_automatonWithPlaces (by first | decide | exact ok0 (by omega) | exact ok1 (by omega) | exact ok2 (by omega) | exact ok7 (by omega)) rfl cv_D_53 wb_242 rfl ⟨(Nat.le_of_ble_eq_true rfl), (Nat.le_of_ble_eq_true rfl)⟩ ⟨(Nat.le_of_ble_eq_true rfl), (Nat.le_of_ble_eq_true rfl)⟩ (Nat.le_of_ble_eq_true rfl) rfl (2, 12) rfl (gt_out ⟨(Nat.le_of_ble_eq_true rfl), (Nat.le_of_ble_eq_true rfl)⟩ ⟨rfl, rfl⟩)
theorem e_D_has_n {l : Launch} {a1 : Int32} {a2 : Int32} {a3 : Int32} {a4 : Int32} {M : Mm} {q : Bool}  (h : m_D_has a1 a2 a3 a4 M = some (Sum.inl q)) : EvX l X_D_has [vr 3 0, vi a1, vi a2, vi a3, vi a4] M (fun v M2 => v = (some (vi (bI q))) ∧ M2 = M) (fun _ _ => False) := e_D_has h
theorem e_D_has_t {l : Launch} {a1 : Int32} {a2 : Int32} {a3 : Int32} {a4 : Int32} {M : Mm} {q : Nat × Mm}  (h : m_D_has a1 a2 a3 a4 M = some (Sum.inr q)) : EvX l X_D_has [vr 3 0, vi a1, vi a2, vi a3, vi a4] M (fun _ _ => False) (fun E M2 => E = xnm q.1 ∧ M2 = q.2) := e_D_has h
