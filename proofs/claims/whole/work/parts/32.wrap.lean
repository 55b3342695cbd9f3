def X_L_state : MX := (⟨"OmegaDeskLaw", "state", "(LOmegaDesk;IZ[J)I"⟩, method_3_code, 5, some .int, { frames := 8, cells := 2, slots := 12, locals := 134 },
  [(0, .aload_n 3, 1), (1, .iconst 0, 2), (2, .aload_n 0, 3), (3, .iload_n 1, 4), (4, .iload_n 2, 5), (5, .invokevirtual 7, 8), (8, .i2l, 9), (9, .lastore, 10), (10, .goto 11, 13), (13, .astore 4, 15), (15, .iconst 1, 16), (16, .ireturn, 17), (17, .astore 4, 19), (19, .iconst 2, 20), (20, .ireturn, 21), (21, .iconst 0, 22), (22, .ireturn, 23)])
def hh_L_state : List (Nat × Nat × Nat × Nat) := [(0, 10, 13, 13), (0, 10, 17, 15)]
set_option maxRecDepth 20000 in
theorem mk_L_state : MkW X_L_state hh_L_state := ⟨by unfold TBk; decide +kernel, by decide +kernel, wb_136, ⟨by decide, by decide⟩, wb_0⟩
theorem cv_L_7 : CV "OmegaDeskLaw" 7 X_D_state 2 3 := ⟨Or.inl wb_139, ⟨wb_140, wb_141⟩, by decide +kernel, F_D, 4, rfl⟩
def m_L_state (a1 : Int32) (a2 : Bool) (a3 : Nat) (M : Mm) : Option (Int32 × Mm) :=
  bd (m_D_state a1 a2 M) fun r1 =>
  smr r1 (fun e3 => if e3.1 = 1 then some (1, e3.2) else if e3.1 = 2 then some (2, e3.2) else none) fun v2 =>
  ck (inb (0 : Int32) (lenL a3)) <|
  bd (some (uL v2.2 (2, a3) (0 : Int32).toNatClampNeg (v2.1.toInt64))) fun M4 =>
  some ((0 : Int32), M4)
set_option maxRecDepth 20000 in
theorem e_L_state {l : Launch} {a1 : Int32} {a2 : Bool} {a3 : Nat} {M : Mm} {r : Int32 × Mm} (h3 : a3 < 4) (h : m_L_state a1 a2 a3 M = some r) : EvW l X_L_state hh_L_state [vr 3 0, vi a1, vi (bI a2), vr 2 a3] M (fun v M2 => v = (some (vi r.1)) ∧ M2 = r.2) := by
  refine EvW.of mk_L_state [(0, vr 3 0), (1, vi a1), (2, vi (bI a2)), (3, vr 2 a3)] (fun _ => rfl) (fun _ => (Nat.le_of_ble_eq_true rfl)) ?_
  unfold m_L_state at h
  refine go_aload_n 0 rfl 3 rfl rfl ?_
  refine go_iconst 0 1 rfl (by decide) ?_
  refine go_aload_n 2 rfl 0 rfl rfl ?_
  refine go_iload_n 3 rfl 1 rfl rfl ?_
  refine go_iload_n 4 rfl 2 rfl rfl ?_
  obtain ⟨x, c, h⟩ := bd_inv h
  rcases x with v | e
  · replace h := smr_l h
    refine go_callXn _ 5 rfl (e_D_state_n c) (fun _ _ => id) mk_D_state (by first | decide | exact ok0 (by omega) | exact ok1 (by omega) | exact ok2 (by omega) | exact ok7 (by omega)) rfl cv_L_7 wb_139 rfl ⟨(Nat.le_of_ble_eq_true rfl), (Nat.le_of_ble_eq_true rfl)⟩ ⟨(Nat.le_of_ble_eq_true rfl), (Nat.le_of_ble_eq_true rfl)⟩ (Nat.le_of_ble_eq_true rfl) rfl (2, 12) rfl ?_
    refine go_i2l 6 rfl ?_
    obtain ⟨c, h⟩ := ck_inv h
    refine go_lastore 7 rfl (by first | decide | exact ok0 (by omega) | exact ok1 (by omega) | exact ok2 (by omega) | exact ok7 (by omega)) (inb_vp c) ?_
    obtain ⟨_, c, h⟩ := bd_inv h
    cases c
    refine go_goto 21 8 rfl (by decide) ?_
    refine go_iconst 0 15 rfl (by decide) ?_
    cases h
    exact go_xret 16 rfl rfl rfl rfl ⟨(Nat.le_of_ble_eq_true rfl), (Nat.le_of_ble_eq_true rfl)⟩ ⟨rfl, rfl⟩
  · replace h := smr_r h
    obtain ⟨e, M9⟩ := e
    by_cases ce : e = 1
    · subst ce
      replace h := ite_t rfl h
      cases h
      exact go_callXt _ 5 rfl (e_D_state_t c) (fun _ _ => id) mk_D_state (by first | decide | exact ok0 (by omega) | exact ok1 (by omega) | exact ok2 (by omega) | exact ok7 (by omega)) rfl cv_L_7 wb_139 rfl ⟨(Nat.le_of_ble_eq_true rfl), (Nat.le_of_ble_eq_true rfl)⟩ ⟨(Nat.le_of_ble_eq_true rfl), (Nat.le_of_ble_eq_true rfl)⟩ (Nat.le_of_ble_eq_true rfl) rfl (2, 12) rfl (gt_catch (hh := hh_L_state) (E := "java/lang/IllegalArgumentException") (v := 1) 0 _ rfl (by decide) (by decide) wb_137 nw_149 rfl (fun y hy => by simp at hy) 9 (Or.inr rfl) (Nat.le_of_ble_eq_true rfl) rfl (by decide) rfl rfl ⟨(Nat.le_of_ble_eq_true rfl), (Nat.le_of_ble_eq_true rfl)⟩ ⟨rfl, rfl⟩)
    · replace h := ite_f ce h
      by_cases ce : e = 2
      · subst ce
        replace h := ite_t rfl h
        cases h
        exact go_callXt _ 5 rfl (e_D_state_t c) (fun _ _ => id) mk_D_state (by first | decide | exact ok0 (by omega) | exact ok1 (by omega) | exact ok2 (by omega) | exact ok7 (by omega)) rfl cv_L_7 wb_139 rfl ⟨(Nat.le_of_ble_eq_true rfl), (Nat.le_of_ble_eq_true rfl)⟩ ⟨(Nat.le_of_ble_eq_true rfl), (Nat.le_of_ble_eq_true rfl)⟩ (Nat.le_of_ble_eq_true rfl) rfl (2, 12) rfl (gt_catch (hh := hh_L_state) (E := "java/lang/IllegalStateException") (v := 2) 1 _ rfl (by decide) (by decide) wb_138 nw_217 rfl (fun y hy => by obtain rfl : y = (tableOf hh_L_state)[0] := (by simpa [hh_L_state, tableOf] using hy); exact ⟨by decide, "java/lang/IllegalArgumentException", wb_137, Or.inl ⟨rfl, rfl⟩⟩) 12 (Or.inr rfl) (Nat.le_of_ble_eq_true rfl) rfl (by decide) rfl rfl ⟨(Nat.le_of_ble_eq_true rfl), (Nat.le_of_ble_eq_true rfl)⟩ ⟨rfl, rfl⟩)
      · replace h := ite_f ce h
        cases h
def X_L_edge : MX := (⟨"OmegaDeskLaw", "edge", "(LOmegaDesk;IIII[J)I"⟩, method_4_code, 7, some .int, { frames := 9, cells := 2, slots := 12, locals := 162 },
  [(0, .aload 5, 2), (2, .iconst 0, 3), (3, .aload_n 0, 4), (4, .iload_n 1, 5), (5, .iload_n 2, 6), (6, .iload_n 3, 7), (7, .iload 4, 9), (9, .invokevirtual 17, 12), (12, .ifCond .eq 7, 15), (15, .lconst 1, 16), (16, .goto 4, 19), (19, .lconst 0, 20), (20, .lastore, 21), (21, .goto 7, 24), (24, .astore 6, 26), (26, .iconst 1, 27), (27, .ireturn, 28), (28, .iconst 0, 29), (29, .ireturn, 30)])
def hh_L_edge : List (Nat × Nat × Nat × Nat) := [(0, 21, 24, 13)]
set_option maxRecDepth 20000 in
theorem mk_L_edge : MkW X_L_edge hh_L_edge := ⟨by unfold TBk; decide +kernel, by decide +kernel, wb_237, ⟨by decide, by decide⟩, wb_0⟩
theorem cv_L_17 : CV "OmegaDeskLaw" 17 X_D_edge 4 3 := ⟨Or.inl wb_238, ⟨wb_239, wb_240⟩, by decide +kernel, F_D, 4, rfl⟩
def m_L_edge (a1 : Int32) (a2 : Int32) (a3 : Int32) (a4 : Int32) (a5 : Nat) (M : Mm) : Option (Int32 × Mm) :=
  bd (m_D_edge a1 a2 a3 a4 M) fun r1 =>
  smr r1 (fun e3 => if e3.1 = 1 then some (1, e3.2) else none) fun v2 =>
  if (bI v2.1) = 0 then
    ck (inb (0 : Int32) (lenL a5)) <|
    bd (some (uL v2.2 (2, a5) (0 : Int32).toNatClampNeg (0 : Int64))) fun M4 =>
    some ((0 : Int32), M4)
  else
    ck (inb (0 : Int32) (lenL a5)) <|
    bd (some (uL v2.2 (2, a5) (0 : Int32).toNatClampNeg (1 : Int64))) fun M5 =>
    some ((0 : Int32), M5)
set_option maxRecDepth 20000 in
theorem e_L_edge {l : Launch} {a1 : Int32} {a2 : Int32} {a3 : Int32} {a4 : Int32} {a5 : Nat} {M : Mm} {r : Int32 × Mm} (h5 : a5 < 4) (h : m_L_edge a1 a2 a3 a4 a5 M = some r) : EvW l X_L_edge hh_L_edge [vr 3 0, vi a1, vi a2, vi a3, vi a4, vr 2 a5] M (fun v M2 => v = (some (vi r.1)) ∧ M2 = r.2) := by
  refine EvW.of mk_L_edge [(0, vr 3 0), (1, vi a1), (2, vi a2), (3, vi a3), (4, vi a4), (5, vr 2 a5)] (fun _ => rfl) (fun _ => (Nat.le_of_ble_eq_true rfl)) ?_
  unfold m_L_edge at h
  refine go_aload 0 rfl 5 rfl ?_
  refine go_iconst 0 1 rfl (by decide) ?_
  refine go_aload_n 2 rfl 0 rfl rfl ?_
  refine go_iload_n 3 rfl 1 rfl rfl ?_
  refine go_iload_n 4 rfl 2 rfl rfl ?_
  refine go_iload_n 5 rfl 3 rfl rfl ?_
  refine go_iload 6 rfl 4 rfl ?_
  obtain ⟨x, c, h⟩ := bd_inv h
  rcases x with v | e
  · replace h := smr_l h
    refine go_callXn _ 7 rfl (e_D_edge_n c) (fun _ _ => id) mk_D_edge (by first | decide | exact ok0 (by omega) | exact ok1 (by omega) | exact ok2 (by omega) | exact ok7 (by omega)) rfl cv_L_17 wb_238 rfl ⟨(Nat.le_of_ble_eq_true rfl), (Nat.le_of_ble_eq_true rfl)⟩ ⟨(Nat.le_of_ble_eq_true rfl), (Nat.le_of_ble_eq_true rfl)⟩ (Nat.le_of_ble_eq_true rfl) rfl (2, 12) rfl ?_
    refine go_if_eq 19 8 rfl (by decide) (fun c => ?_) (fun c => ?_)
    · replace h := ite_t c h
      refine go_lconst 0 11 rfl (by decide) ?_
      obtain ⟨c, h⟩ := ck_inv h
      refine go_lastore 12 rfl (by first | decide | exact ok0 (by omega) | exact ok1 (by omega) | exact ok2 (by omega) | exact ok7 (by omega)) (inb_vp c) ?_
      obtain ⟨_, c, h⟩ := bd_inv h
      cases c
      refine go_goto 28 13 rfl (by decide) ?_
      refine go_iconst 0 17 rfl (by decide) ?_
      cases h
      exact go_xret 18 rfl rfl rfl rfl ⟨(Nat.le_of_ble_eq_true rfl), (Nat.le_of_ble_eq_true rfl)⟩ ⟨rfl, rfl⟩
    · replace h := ite_f c h
      refine go_lconst 1 9 rfl (by decide) ?_
      refine go_goto 20 10 rfl (by decide) ?_
      obtain ⟨c, h⟩ := ck_inv h
      refine go_lastore 12 rfl (by first | decide | exact ok0 (by omega) | exact ok1 (by omega) | exact ok2 (by omega) | exact ok7 (by omega)) (inb_vp c) ?_
      obtain ⟨_, c, h⟩ := bd_inv h
      cases c
      refine go_goto 28 13 rfl (by decide) ?_
      refine go_iconst 0 17 rfl (by decide) ?_
      cases h
      exact go_xret 18 rfl rfl rfl rfl ⟨(Nat.le_of_ble_eq_true rfl), (Nat.le_of_ble_eq_true rfl)⟩ ⟨rfl, rfl⟩
  · replace h := smr_r h
    obtain ⟨e, M9⟩ := e
    by_cases ce : e = 1
    · subst ce
      replace h := ite_t rfl h
      cases h
      exact go_callXt _ 7 rfl (e_D_edge_t c) (fun _ _ => id) mk_D_edge (by first | decide | exact ok0 (by omega) | exact ok1 (by omega) | exact ok2 (by omega) | exact ok7 (by omega)) rfl cv_L_17 wb_238 rfl ⟨(Nat.le_of_ble_eq_true rfl), (Nat.le_of_ble_eq_true rfl)⟩ ⟨(Nat.le_of_ble_eq_true rfl), (Nat.le_of_ble_eq_true rfl)⟩ (Nat.le_of_ble_eq_true rfl) rfl (2, 12) rfl (gt_catch (hh := hh_L_edge) (E := "java/lang/IllegalArgumentException") (v := 1) 0 _ rfl (by decide) (by decide) wb_137 nw_149 rfl (fun y hy => by simp at hy) 14 (Or.inr rfl) (Nat.le_of_ble_eq_true rfl) rfl (by decide) rfl rfl ⟨(Nat.le_of_ble_eq_true rfl), (Nat.le_of_ble_eq_true rfl)⟩ ⟨rfl, rfl⟩)
    · replace h := ite_f ce h
      cases h
def X_L_clear : MX := (⟨"OmegaDeskLaw", "clear", "(LOmegaDesk;I)I"⟩, method_5_code, 3, some .int, { frames := 8, cells := 1, slots := 6, locals := 132 },
  [(0, .aload_n 0, 1), (1, .iload_n 1, 2), (2, .invokevirtual 21, 5), (5, .goto 6, 8), (8, .astore_n 2, 9), (9, .iconst 1, 10), (10, .ireturn, 11), (11, .iconst 0, 12), (12, .ireturn, 13)])
def hh_L_clear : List (Nat × Nat × Nat × Nat) := [(0, 5, 8, 13)]
set_option maxRecDepth 20000 in
theorem mk_L_clear : MkW X_L_clear hh_L_clear := ⟨by unfold TBk; decide +kernel, by decide +kernel, wb_266, ⟨by decide, by decide⟩, wb_0⟩
theorem cv_L_21 : CV "OmegaDeskLaw" 21 X_D_clear 1 3 := ⟨Or.inl wb_267, ⟨wb_268, wb_269⟩, by decide +kernel, F_D, 4, rfl⟩
def m_L_clear (a1 : Int32) (M : Mm) : Option (Int32 × Mm) :=
  bd (m_D_clear a1 M) fun r1 =>
  smr r1 (fun e3 => if e3.1 = 1 then some (1, e3.2) else none) fun v2 =>
  some ((0 : Int32), v2)
set_option maxRecDepth 20000 in
theorem e_L_clear {l : Launch} {a1 : Int32} {M : Mm} {r : Int32 × Mm}  (h : m_L_clear a1 M = some r) : EvW l X_L_clear hh_L_clear [vr 3 0, vi a1] M (fun v M2 => v = (some (vi r.1)) ∧ M2 = r.2) := by
  refine EvW.of mk_L_clear [(0, vr 3 0), (1, vi a1)] (fun _ => rfl) (fun _ => (Nat.le_of_ble_eq_true rfl)) ?_
  unfold m_L_clear at h
  refine go_aload_n 0 rfl 0 rfl rfl ?_
  refine go_iload_n 1 rfl 1 rfl rfl ?_
  obtain ⟨x, c, h⟩ := bd_inv h
  rcases x with v | e
  · replace h := smr_l h
    refine go_callXn _ 2 rfl (e_D_clear_n c) (fun _ _ => id) mk_D_clear (by first | decide | exact ok0 (by omega) | exact ok1 (by omega) | exact ok2 (by omega) | exact ok7 (by omega)) rfl cv_L_21 wb_267 rfl ⟨(Nat.le_of_ble_eq_true rfl), (Nat.le_of_ble_eq_true rfl)⟩ ⟨(Nat.le_of_ble_eq_true rfl), (Nat.le_of_ble_eq_true rfl)⟩ (Nat.le_of_ble_eq_true rfl) rfl (1, 6) rfl ?_
    refine go_goto 11 3 rfl (by decide) ?_
    refine go_iconst 0 7 rfl (by decide) ?_
    cases h
    exact go_xret 8 rfl rfl rfl rfl ⟨(Nat.le_of_ble_eq_true rfl), (Nat.le_of_ble_eq_true rfl)⟩ ⟨rfl, rfl⟩
  · replace h := smr_r h
    obtain ⟨e, M9⟩ := e
    by_cases ce : e = 1
    · subst ce
      replace h := ite_t rfl h
      cases h
      exact go_callXt _ 2 rfl (e_D_clear_t c) (fun _ _ => id) mk_D_clear (by first | decide | exact ok0 (by omega) | exact ok1 (by omega) | exact ok2 (by omega) | exact ok7 (by omega)) rfl cv_L_21 wb_267 rfl ⟨(Nat.le_of_ble_eq_true rfl), (Nat.le_of_ble_eq_true rfl)⟩ ⟨(Nat.le_of_ble_eq_true rfl), (Nat.le_of_ble_eq_true rfl)⟩ (Nat.le_of_ble_eq_true rfl) rfl (1, 6) rfl (gt_catch (hh := hh_L_clear) (E := "java/lang/IllegalArgumentException") (v := 1) 0 _ rfl (by decide) (by decide) wb_137 nw_149 rfl (fun y hy => by simp at hy) 4 (Or.inl ⟨2, rfl, rfl⟩) (Nat.le_of_ble_eq_true rfl) rfl (by decide) rfl rfl ⟨(Nat.le_of_ble_eq_true rfl), (Nat.le_of_ble_eq_true rfl)⟩ ⟨rfl, rfl⟩)
    · replace h := ite_f ce h
      cases h
def X_L_unite : MX := (⟨"OmegaDeskLaw", "unite", "(LOmegaDesk;III[J)I"⟩, method_6_code, 6, some .int, { frames := 8, cells := 4, slots := 24, locals := 137 },
  [(0, .aload 4, 2), (2, .iconst 0, 3), (3, .aload_n 0, 4), (4, .iload_n 1, 5), (5, .iload_n 2, 6), (6, .iload_n 3, 7), (7, .invokevirtual 25, 10), (10, .i2l, 11), (11, .lastore, 12), (12, .goto 11, 15), (15, .astore 5, 17), (17, .iconst 1, 18), (18, .ireturn, 19), (19, .astore 5, 21), (21, .iconst 2, 22), (22, .ireturn, 23), (23, .iconst 0, 24), (24, .ireturn, 25)])
def hh_L_unite : List (Nat × Nat × Nat × Nat) := [(0, 12, 15, 13), (0, 12, 19, 15)]
set_option maxRecDepth 20000 in
theorem mk_L_unite : MkW X_L_unite hh_L_unite := ⟨by unfold TBk; decide +kernel, by decide +kernel, wb_280, ⟨by decide, by decide⟩, wb_0⟩
theorem cv_L_25 : CV "OmegaDeskLaw" 25 X_D_unite 3 3 := ⟨Or.inl wb_281, ⟨wb_282, wb_283⟩, by decide +kernel, F_D, 4, rfl⟩
def m_L_unite (a1 : Int32) (a2 : Int32) (a3 : Int32) (a4 : Nat) (M : Mm) : Option (Int32 × Mm) :=
  bd (m_D_unite a1 a2 a3 M) fun r1 =>
  smr r1 (fun e3 => if e3.1 = 1 then some (1, e3.2) else if e3.1 = 2 then some (2, e3.2) else none) fun v2 =>
  ck (inb (0 : Int32) (lenL a4)) <|
  bd (some (uL v2.2 (2, a4) (0 : Int32).toNatClampNeg (v2.1.toInt64))) fun M4 =>
  some ((0 : Int32), M4)
set_option maxRecDepth 20000 in
theorem e_L_unite {l : Launch} {a1 : Int32} {a2 : Int32} {a3 : Int32} {a4 : Nat} {M : Mm} {r : Int32 × Mm} (h4 : a4 < 4) (h : m_L_unite a1 a2 a3 a4 M = some r) : EvW l X_L_unite hh_L_unite [vr 3 0, vi a1, vi a2, vi a3, vr 2 a4] M (fun v M2 => v = (some (vi r.1)) ∧ M2 = r.2) := by
  refine EvW.of mk_L_unite [(0, vr 3 0), (1, vi a1), (2, vi a2), (3, vi a3), (4, vr 2 a4)] (fun _ => rfl) (fun _ => (Nat.le_of_ble_eq_true rfl)) ?_
  unfold m_L_unite at h
  refine go_aload 0 rfl 4 rfl ?_
  refine go_iconst 0 1 rfl (by decide) ?_
  refine go_aload_n 2 rfl 0 rfl rfl ?_
  refine go_iload_n 3 rfl 1 rfl rfl ?_
  refine go_iload_n 4 rfl 2 rfl rfl ?_
  refine go_iload_n 5 rfl 3 rfl rfl ?_
  obtain ⟨x, c, h⟩ := bd_inv h
  rcases x with v | e
  · replace h := smr_l h
    refine go_callXn _ 6 rfl (e_D_unite_n c) (fun _ _ => id) mk_D_unite (by first | decide | exact ok0 (by omega) | exact ok1 (by omega) | exact ok2 (by omega) | exact ok7 (by omega)) rfl cv_L_25 wb_281 rfl ⟨(Nat.le_of_ble_eq_true rfl), (Nat.le_of_ble_eq_true rfl)⟩ ⟨(Nat.le_of_ble_eq_true rfl), (Nat.le_of_ble_eq_true rfl)⟩ (Nat.le_of_ble_eq_true rfl) rfl (4, 24) rfl ?_
    refine go_i2l 7 rfl ?_
    obtain ⟨c, h⟩ := ck_inv h
    refine go_lastore 8 rfl (by first | decide | exact ok0 (by omega) | exact ok1 (by omega) | exact ok2 (by omega) | exact ok7 (by omega)) (inb_vp c) ?_
    obtain ⟨_, c, h⟩ := bd_inv h
    cases c
    refine go_goto 23 9 rfl (by decide) ?_
    refine go_iconst 0 16 rfl (by decide) ?_
    cases h
    exact go_xret 17 rfl rfl rfl rfl ⟨(Nat.le_of_ble_eq_true rfl), (Nat.le_of_ble_eq_true rfl)⟩ ⟨rfl, rfl⟩
  · replace h := smr_r h
    obtain ⟨e, M9⟩ := e
    by_cases ce : e = 1
    · subst ce
      replace h := ite_t rfl h
      cases h
      exact go_callXt _ 6 rfl (e_D_unite_t c) (fun _ _ => id) mk_D_unite (by first | decide | exact ok0 (by omega) | exact ok1 (by omega) | exact ok2 (by omega) | exact ok7 (by omega)) rfl cv_L_25 wb_281 rfl ⟨(Nat.le_of_ble_eq_true rfl), (Nat.le_of_ble_eq_true rfl)⟩ ⟨(Nat.le_of_ble_eq_true rfl), (Nat.le_of_ble_eq_true rfl)⟩ (Nat.le_of_ble_eq_true rfl) rfl (4, 24) rfl (gt_catch (hh := hh_L_unite) (E := "java/lang/IllegalArgumentException") (v := 1) 0 _ rfl (by decide) (by decide) wb_137 nw_149 rfl (fun y hy => by simp at hy) 10 (Or.inr rfl) (Nat.le_of_ble_eq_true rfl) rfl (by decide) rfl rfl ⟨(Nat.le_of_ble_eq_true rfl), (Nat.le_of_ble_eq_true rfl)⟩ ⟨rfl, rfl⟩)
    · replace h := ite_f ce h
      by_cases ce : e = 2
      · subst ce
        replace h := ite_t rfl h
        cases h
        exact go_callXt _ 6 rfl (e_D_unite_t c) (fun _ _ => id) mk_D_unite (by first | decide | exact ok0 (by omega) | exact ok1 (by omega) | exact ok2 (by omega) | exact ok7 (by omega)) rfl cv_L_25 wb_281 rfl ⟨(Nat.le_of_ble_eq_true rfl), (Nat.le_of_ble_eq_true rfl)⟩ ⟨(Nat.le_of_ble_eq_true rfl), (Nat.le_of_ble_eq_true rfl)⟩ (Nat.le_of_ble_eq_true rfl) rfl (4, 24) rfl (gt_catch (hh := hh_L_unite) (E := "java/lang/IllegalStateException") (v := 2) 1 _ rfl (by decide) (by decide) wb_138 nw_217 rfl (fun y hy => by obtain rfl : y = (tableOf hh_L_unite)[0] := (by simpa [hh_L_unite, tableOf] using hy); exact ⟨by decide, "java/lang/IllegalArgumentException", wb_137, Or.inl ⟨rfl, rfl⟩⟩) 13 (Or.inr rfl) (Nat.le_of_ble_eq_true rfl) rfl (by decide) rfl rfl ⟨(Nat.le_of_ble_eq_true rfl), (Nat.le_of_ble_eq_true rfl)⟩ ⟨rfl, rfl⟩)
      · replace h := ite_f ce h
        cases h
def X_L_trim : MX := (⟨"OmegaDeskLaw", "trim", "(LOmegaDesk;I[J)I"⟩, method_7_code, 4, some .int, { frames := 8, cells := 1, slots := 6, locals := 133 },
  [(0, .aload_n 2, 1), (1, .iconst 0, 2), (2, .aload_n 0, 3), (3, .iload_n 1, 4), (4, .invokevirtual 29, 7), (7, .i2l, 8), (8, .lastore, 9), (9, .goto 6, 12), (12, .astore_n 3, 13), (13, .iconst 1, 14), (14, .ireturn, 15), (15, .iconst 0, 16), (16, .ireturn, 17)])
def hh_L_trim : List (Nat × Nat × Nat × Nat) := [(0, 9, 12, 13)]
set_option maxRecDepth 20000 in
theorem mk_L_trim : MkW X_L_trim hh_L_trim := ⟨by unfold TBk; decide +kernel, by decide +kernel, wb_303, ⟨by decide, by decide⟩, wb_0⟩
theorem cv_L_29 : CV "OmegaDeskLaw" 29 X_D_trim 1 3 := ⟨Or.inl wb_304, ⟨wb_305, wb_306⟩, by decide +kernel, F_D, 4, rfl⟩
def m_L_trim (a1 : Int32) (a2 : Nat) (M : Mm) : Option (Int32 × Mm) :=
  bd (m_D_trim a1 M) fun r1 =>
  smr r1 (fun e3 => if e3.1 = 1 then some (1, e3.2) else none) fun v2 =>
  ck (inb (0 : Int32) (lenL a2)) <|
  bd (some (uL v2.2 (2, a2) (0 : Int32).toNatClampNeg (v2.1.toInt64))) fun M4 =>
  some ((0 : Int32), M4)
set_option maxRecDepth 20000 in
theorem e_L_trim {l : Launch} {a1 : Int32} {a2 : Nat} {M : Mm} {r : Int32 × Mm} (h2 : a2 < 4) (h : m_L_trim a1 a2 M = some r) : EvW l X_L_trim hh_L_trim [vr 3 0, vi a1, vr 2 a2] M (fun v M2 => v = (some (vi r.1)) ∧ M2 = r.2) := by
  refine EvW.of mk_L_trim [(0, vr 3 0), (1, vi a1), (2, vr 2 a2)] (fun _ => rfl) (fun _ => (Nat.le_of_ble_eq_true rfl)) ?_
  unfold m_L_trim at h
  refine go_aload_n 0 rfl 2 rfl rfl ?_
  refine go_iconst 0 1 rfl (by decide) ?_
  refine go_aload_n 2 rfl 0 rfl rfl ?_
  refine go_iload_n 3 rfl 1 rfl rfl ?_
  obtain ⟨x, c, h⟩ := bd_inv h
  rcases x with v | e
  · replace h := smr_l h
    refine go_callXn _ 4 rfl (e_D_trim_n c) (fun _ _ => id) mk_D_trim (by first | decide | exact ok0 (by omega) | exact ok1 (by omega) | exact ok2 (by omega) | exact ok7 (by omega)) rfl cv_L_29 wb_304 rfl ⟨(Nat.le_of_ble_eq_true rfl), (Nat.le_of_ble_eq_true rfl)⟩ ⟨(Nat.le_of_ble_eq_true rfl), (Nat.le_of_ble_eq_true rfl)⟩ (Nat.le_of_ble_eq_true rfl) rfl (1, 6) rfl ?_
    refine go_i2l 5 rfl ?_
    obtain ⟨c, h⟩ := ck_inv h
    refine go_lastore 6 rfl (by first | decide | exact ok0 (by omega) | exact ok1 (by omega) | exact ok2 (by omega) | exact ok7 (by omega)) (inb_vp c) ?_
    obtain ⟨_, c, h⟩ := bd_inv h
    cases c
    refine go_goto 15 7 rfl (by decide) ?_
    refine go_iconst 0 11 rfl (by decide) ?_
    cases h
    exact go_xret 12 rfl rfl rfl rfl ⟨(Nat.le_of_ble_eq_true rfl), (Nat.le_of_ble_eq_true rfl)⟩ ⟨rfl, rfl⟩
  · replace h := smr_r h
    obtain ⟨e, M9⟩ := e
    by_cases ce : e = 1
    · subst ce
      replace h := ite_t rfl h
      cases h
      exact go_callXt _ 4 rfl (e_D_trim_t c) (fun _ _ => id) mk_D_trim (by first | decide | exact ok0 (by omega) | exact ok1 (by omega) | exact ok2 (by omega) | exact ok7 (by omega)) rfl cv_L_29 wb_304 rfl ⟨(Nat.le_of_ble_eq_true rfl), (Nat.le_of_ble_eq_true rfl)⟩ ⟨(Nat.le_of_ble_eq_true rfl), (Nat.le_of_ble_eq_true rfl)⟩ (Nat.le_of_ble_eq_true rfl) rfl (1, 6) rfl (gt_catch (hh := hh_L_trim) (E := "java/lang/IllegalArgumentException") (v := 1) 0 _ rfl (by decide) (by decide) wb_137 nw_149 rfl (fun y hy => by simp at hy) 8 (Or.inl ⟨3, rfl, rfl⟩) (Nat.le_of_ble_eq_true rfl) rfl (by decide) rfl rfl ⟨(Nat.le_of_ble_eq_true rfl), (Nat.le_of_ble_eq_true rfl)⟩ ⟨rfl, rfl⟩)
    · replace h := ite_f ce h
      cases h
def X_L_empty : MX := (⟨"OmegaDeskLaw", "empty", "(LOmegaDesk;I[J)I"⟩, method_8_code, 4, some .int, { frames := 8, cells := 1, slots := 6, locals := 132 },
  [(0, .aload_n 2, 1), (1, .iconst 0, 2), (2, .aload_n 0, 3), (3, .iload_n 1, 4), (4, .invokevirtual 33, 7), (7, .ifCond .eq 7, 10), (10, .lconst 1, 11), (11, .goto 4, 14), (14, .lconst 0, 15), (15, .lastore, 16), (16, .goto 6, 19), (19, .astore_n 3, 20), (20, .iconst 1, 21), (21, .ireturn, 22), (22, .iconst 0, 23), (23, .ireturn, 24)])
def hh_L_empty : List (Nat × Nat × Nat × Nat) := [(0, 16, 19, 13)]
set_option maxRecDepth 20000 in
theorem mk_L_empty : MkW X_L_empty hh_L_empty := ⟨by unfold TBk; decide +kernel, by decide +kernel, wb_368, ⟨by decide, by decide⟩, wb_0⟩
theorem cv_L_33 : CV "OmegaDeskLaw" 33 X_D_empty 1 3 := ⟨Or.inl wb_369, ⟨wb_370, wb_371⟩, by decide +kernel, F_D, 4, rfl⟩
def m_L_empty (a1 : Int32) (a2 : Nat) (M : Mm) : Option (Int32 × Mm) :=
  bd (m_D_empty a1 M) fun r1 =>
  smr r1 (fun e3 => if e3.1 = 1 then some (1, e3.2) else none) fun v2 =>
  if (bI v2) = 0 then
    ck (inb (0 : Int32) (lenL a2)) <|
    bd (some (uL M (2, a2) (0 : Int32).toNatClampNeg (0 : Int64))) fun M4 =>
    some ((0 : Int32), M4)
  else
    ck (inb (0 : Int32) (lenL a2)) <|
    bd (some (uL M (2, a2) (0 : Int32).toNatClampNeg (1 : Int64))) fun M5 =>
    some ((0 : Int32), M5)
set_option maxRecDepth 20000 in
theorem e_L_empty {l : Launch} {a1 : Int32} {a2 : Nat} {M : Mm} {r : Int32 × Mm} (h2 : a2 < 4) (h : m_L_empty a1 a2 M = some r) : EvW l X_L_empty hh_L_empty [vr 3 0, vi a1, vr 2 a2] M (fun v M2 => v = (some (vi r.1)) ∧ M2 = r.2) := by
  refine EvW.of mk_L_empty [(0, vr 3 0), (1, vi a1), (2, vr 2 a2)] (fun _ => rfl) (fun _ => (Nat.le_of_ble_eq_true rfl)) ?_
  unfold m_L_empty at h
  refine go_aload_n 0 rfl 2 rfl rfl ?_
  refine go_iconst 0 1 rfl (by decide) ?_
  refine go_aload_n 2 rfl 0 rfl rfl ?_
  refine go_iload_n 3 rfl 1 rfl rfl ?_
  obtain ⟨x, c, h⟩ := bd_inv h
  rcases x with v | e
  · replace h := smr_l h
    refine go_callXn _ 4 rfl (e_D_empty_n c) (fun _ _ => id) mk_D_empty (by first | decide | exact ok0 (by omega) | exact ok1 (by omega) | exact ok2 (by omega) | exact ok7 (by omega)) rfl cv_L_33 wb_369 rfl ⟨(Nat.le_of_ble_eq_true rfl), (Nat.le_of_ble_eq_true rfl)⟩ ⟨(Nat.le_of_ble_eq_true rfl), (Nat.le_of_ble_eq_true rfl)⟩ (Nat.le_of_ble_eq_true rfl) rfl (1, 6) rfl ?_
    refine go_if_eq 14 5 rfl (by decide) (fun c => ?_) (fun c => ?_)
    · replace h := ite_t c h
      refine go_lconst 0 8 rfl (by decide) ?_
      obtain ⟨c, h⟩ := ck_inv h
      refine go_lastore 9 rfl (by first | decide | exact ok0 (by omega) | exact ok1 (by omega) | exact ok2 (by omega) | exact ok7 (by omega)) (inb_vp c) ?_
      obtain ⟨_, c, h⟩ := bd_inv h
      cases c
      refine go_goto 22 10 rfl (by decide) ?_
      refine go_iconst 0 14 rfl (by decide) ?_
      cases h
      exact go_xret 15 rfl rfl rfl rfl ⟨(Nat.le_of_ble_eq_true rfl), (Nat.le_of_ble_eq_true rfl)⟩ ⟨rfl, rfl⟩
    · replace h := ite_f c h
      refine go_lconst 1 6 rfl (by decide) ?_
      refine go_goto 15 7 rfl (by decide) ?_
      obtain ⟨c, h⟩ := ck_inv h
      refine go_lastore 9 rfl (by first | decide | exact ok0 (by omega) | exact ok1 (by omega) | exact ok2 (by omega) | exact ok7 (by omega)) (inb_vp c) ?_
      obtain ⟨_, c, h⟩ := bd_inv h
      cases c
      refine go_goto 22 10 rfl (by decide) ?_
      refine go_iconst 0 14 rfl (by decide) ?_
      cases h
      exact go_xret 15 rfl rfl rfl rfl ⟨(Nat.le_of_ble_eq_true rfl), (Nat.le_of_ble_eq_true rfl)⟩ ⟨rfl, rfl⟩
  · replace h := smr_r h
    obtain ⟨e, M9⟩ := e
    by_cases ce : e = 1
    · subst ce
      replace h := ite_t rfl h
      cases h
      exact go_callXt _ 4 rfl (e_D_empty_t c) (fun _ _ => id) mk_D_empty (by first | decide | exact ok0 (by omega) | exact ok1 (by omega) | exact ok2 (by omega) | exact ok7 (by omega)) rfl cv_L_33 wb_369 rfl ⟨(Nat.le_of_ble_eq_true rfl), (Nat.le_of_ble_eq_true rfl)⟩ ⟨(Nat.le_of_ble_eq_true rfl), (Nat.le_of_ble_eq_true rfl)⟩ (Nat.le_of_ble_eq_true rfl) rfl (1, 6) rfl (gt_catch (hh := hh_L_empty) (E := "java/lang/IllegalArgumentException") (v := 1) 0 _ rfl (by decide) (by decide) wb_137 nw_149 rfl (fun y hy => by simp at hy) 11 (Or.inl ⟨3, rfl, rfl⟩) (Nat.le_of_ble_eq_true rfl) rfl (by decide) rfl rfl ⟨(Nat.le_of_ble_eq_true rfl), (Nat.le_of_ble_eq_true rfl)⟩ ⟨rfl, rfl⟩)
    · replace h := ite_f ce h
      cases h
def X_L_takes : MX := (⟨"OmegaDeskLaw", "takes", "(LOmegaDesk;IIIII[J)I"⟩, method_9_code, 8, some .int, { frames := 8, cells := 2, slots := 12, locals := 139 },
  [(0, .aload 6, 2), (2, .iconst 0, 3), (3, .aload_n 0, 4), (4, .iload_n 1, 5), (5, .iload_n 2, 6), (6, .iload_n 3, 7), (7, .iload 4, 9), (9, .iload 5, 11), (11, .invokevirtual 37, 14), (14, .ifCond .eq 7, 17), (17, .lconst 1, 18), (18, .goto 4, 21), (21, .lconst 0, 22), (22, .lastore, 23), (23, .goto 7, 26), (26, .astore 7, 28), (28, .iconst 1, 29), (29, .ireturn, 30), (30, .iconst 0, 31), (31, .ireturn, 32)])
def hh_L_takes : List (Nat × Nat × Nat × Nat) := [(0, 23, 26, 13)]
set_option maxRecDepth 20000 in
theorem mk_L_takes : MkW X_L_takes hh_L_takes := ⟨by unfold TBk; decide +kernel, by decide +kernel, wb_375, ⟨by decide, by decide⟩, wb_0⟩
theorem cv_L_37 : CV "OmegaDeskLaw" 37 X_D_takes 5 3 := ⟨Or.inl wb_376, ⟨wb_377, wb_378⟩, by decide +kernel, F_D, 4, rfl⟩
def m_L_takes (a1 : Int32) (a2 : Int32) (a3 : Int32) (a4 : Int32) (a5 : Int32) (a6 : Nat) (M : Mm) : Option (Int32 × Mm) :=
  bd (m_D_takes a1 a2 a3 a4 a5 M) fun r1 =>
  smr r1 (fun e3 => if e3.1 = 1 then some (1, e3.2) else none) fun v2 =>
  if (bI v2) = 0 then
    ck (inb (0 : Int32) (lenL a6)) <|
    bd (some (uL M (2, a6) (0 : Int32).toNatClampNeg (0 : Int64))) fun M4 =>
    some ((0 : Int32), M4)
  else
    ck (inb (0 : Int32) (lenL a6)) <|
    bd (some (uL M (2, a6) (0 : Int32).toNatClampNeg (1 : Int64))) fun M5 =>
    some ((0 : Int32), M5)
set_option maxRecDepth 20000 in
theorem e_L_takes {l : Launch} {a1 : Int32} {a2 : Int32} {a3 : Int32} {a4 : Int32} {a5 : Int32} {a6 : Nat} {M : Mm} {r : Int32 × Mm} (h6 : a6 < 4) (h : m_L_takes a1 a2 a3 a4 a5 a6 M = some r) : EvW l X_L_takes hh_L_takes [vr 3 0, vi a1, vi a2, vi a3, vi a4, vi a5, vr 2 a6] M (fun v M2 => v = (some (vi r.1)) ∧ M2 = r.2) := by
  refine EvW.of mk_L_takes [(0, vr 3 0), (1, vi a1), (2, vi a2), (3, vi a3), (4, vi a4), (5, vi a5), (6, vr 2 a6)] (fun _ => rfl) (fun _ => (Nat.le_of_ble_eq_true rfl)) ?_
  unfold m_L_takes at h
  refine go_aload 0 rfl 6 rfl ?_
  refine go_iconst 0 1 rfl (by decide) ?_
  refine go_aload_n 2 rfl 0 rfl rfl ?_
  refine go_iload_n 3 rfl 1 rfl rfl ?_
  refine go_iload_n 4 rfl 2 rfl rfl ?_
  refine go_iload_n 5 rfl 3 rfl rfl ?_
  refine go_iload 6 rfl 4 rfl ?_
  refine go_iload 7 rfl 5 rfl ?_
  obtain ⟨x, c, h⟩ := bd_inv h
  rcases x with v | e
  · replace h := smr_l h
    refine go_callXn _ 8 rfl (e_D_takes_n c) (fun _ _ => id) mk_D_takes (by first | decide | exact ok0 (by omega) | exact ok1 (by omega) | exact ok2 (by omega) | exact ok7 (by omega)) rfl cv_L_37 wb_376 rfl ⟨(Nat.le_of_ble_eq_true rfl), (Nat.le_of_ble_eq_true rfl)⟩ ⟨(Nat.le_of_ble_eq_true rfl), (Nat.le_of_ble_eq_true rfl)⟩ (Nat.le_of_ble_eq_true rfl) rfl (2, 12) rfl ?_
    refine go_if_eq 21 9 rfl (by decide) (fun c => ?_) (fun c => ?_)
    · replace h := ite_t c h
      refine go_lconst 0 12 rfl (by decide) ?_
      obtain ⟨c, h⟩ := ck_inv h
      refine go_lastore 13 rfl (by first | decide | exact ok0 (by omega) | exact ok1 (by omega) | exact ok2 (by omega) | exact ok7 (by omega)) (inb_vp c) ?_
      obtain ⟨_, c, h⟩ := bd_inv h
      cases c
      refine go_goto 30 14 rfl (by decide) ?_
      refine go_iconst 0 18 rfl (by decide) ?_
      cases h
      exact go_xret 19 rfl rfl rfl rfl ⟨(Nat.le_of_ble_eq_true rfl), (Nat.le_of_ble_eq_true rfl)⟩ ⟨rfl, rfl⟩
    · replace h := ite_f c h
      refine go_lconst 1 10 rfl (by decide) ?_
      refine go_goto 22 11 rfl (by decide) ?_
      obtain ⟨c, h⟩ := ck_inv h
      refine go_lastore 13 rfl (by first | decide | exact ok0 (by omega) | exact ok1 (by omega) | exact ok2 (by omega) | exact ok7 (by omega)) (inb_vp c) ?_
      obtain ⟨_, c, h⟩ := bd_inv h
      cases c
      refine go_goto 30 14 rfl (by decide) ?_
      refine go_iconst 0 18 rfl (by decide) ?_
      cases h
      exact go_xret 19 rfl rfl rfl rfl ⟨(Nat.le_of_ble_eq_true rfl), (Nat.le_of_ble_eq_true rfl)⟩ ⟨rfl, rfl⟩
  · replace h := smr_r h
    obtain ⟨e, M9⟩ := e
    by_cases ce : e = 1
    · subst ce
      replace h := ite_t rfl h
      cases h
      exact go_callXt _ 8 rfl (e_D_takes_t c) (fun _ _ => id) mk_D_takes (by first | decide | exact ok0 (by omega) | exact ok1 (by omega) | exact ok2 (by omega) | exact ok7 (by omega)) rfl cv_L_37 wb_376 rfl ⟨(Nat.le_of_ble_eq_true rfl), (Nat.le_of_ble_eq_true rfl)⟩ ⟨(Nat.le_of_ble_eq_true rfl), (Nat.le_of_ble_eq_true rfl)⟩ (Nat.le_of_ble_eq_true rfl) rfl (2, 12) rfl (gt_catch (hh := hh_L_takes) (E := "java/lang/IllegalArgumentException") (v := 1) 0 _ rfl (by decide) (by decide) wb_137 nw_149 rfl (fun y hy => by simp at hy) 15 (Or.inr rfl) (Nat.le_of_ble_eq_true rfl) rfl (by decide) rfl rfl ⟨(Nat.le_of_ble_eq_true rfl), (Nat.le_of_ble_eq_true rfl)⟩ ⟨rfl, rfl⟩)
    · replace h := ite_f ce h
      cases h
def X_L_included : MX := (⟨"OmegaDeskLaw", "included", "(LOmegaDesk;II[J)I"⟩, method_10_code, 5, some .int, { frames := 8, cells := 3, slots := 18, locals := 147 },
  [(0, .aload_n 3, 1), (1, .iconst 0, 2), (2, .aload_n 0, 3), (3, .iload_n 1, 4), (4, .iload_n 2, 5), (5, .invokevirtual 41, 8), (8, .ifCond .eq 7, 11), (11, .lconst 1, 12), (12, .goto 4, 15), (15, .lconst 0, 16), (16, .lastore, 17), (17, .goto 11, 20), (20, .astore 4, 22), (22, .iconst 1, 23), (23, .ireturn, 24), (24, .astore 4, 26), (26, .iconst 2, 27), (27, .ireturn, 28), (28, .iconst 0, 29), (29, .ireturn, 30)])
def hh_L_included : List (Nat × Nat × Nat × Nat) := [(0, 17, 20, 13), (0, 17, 24, 15)]
set_option maxRecDepth 20000 in
theorem mk_L_included : MkW X_L_included hh_L_included := ⟨by unfold TBk; decide +kernel, by decide +kernel, wb_393, ⟨by decide, by decide⟩, wb_0⟩
theorem cv_L_41 : CV "OmegaDeskLaw" 41 X_D_included 2 3 := ⟨Or.inl wb_394, ⟨wb_395, wb_396⟩, by decide +kernel, F_D, 4, rfl⟩
def m_L_included (a1 : Int32) (a2 : Int32) (a3 : Nat) (M : Mm) : Option (Int32 × Mm) :=
  bd (m_D_included a1 a2 M) fun r1 =>
  smr r1 (fun e3 => if e3.1 = 1 then some (1, e3.2) else if e3.1 = 2 then some (2, e3.2) else none) fun v2 =>
  if (bI v2.1) = 0 then
    ck (inb (0 : Int32) (lenL a3)) <|
    bd (some (uL v2.2 (2, a3) (0 : Int32).toNatClampNeg (0 : Int64))) fun M4 =>
    some ((0 : Int32), M4)
  else
    ck (inb (0 : Int32) (lenL a3)) <|
    bd (some (uL v2.2 (2, a3) (0 : Int32).toNatClampNeg (1 : Int64))) fun M5 =>
    some ((0 : Int32), M5)
set_option maxRecDepth 20000 in
theorem e_L_included {l : Launch} {a1 : Int32} {a2 : Int32} {a3 : Nat} {M : Mm} {r : Int32 × Mm} (h3 : a3 < 4) (h : m_L_included a1 a2 a3 M = some r) : EvW l X_L_included hh_L_included [vr 3 0, vi a1, vi a2, vr 2 a3] M (fun v M2 => v = (some (vi r.1)) ∧ M2 = r.2) := by
  refine EvW.of mk_L_included [(0, vr 3 0), (1, vi a1), (2, vi a2), (3, vr 2 a3)] (fun _ => rfl) (fun _ => (Nat.le_of_ble_eq_true rfl)) ?_
  unfold m_L_included at h
  refine go_aload_n 0 rfl 3 rfl rfl ?_
  refine go_iconst 0 1 rfl (by decide) ?_
  refine go_aload_n 2 rfl 0 rfl rfl ?_
  refine go_iload_n 3 rfl 1 rfl rfl ?_
  refine go_iload_n 4 rfl 2 rfl rfl ?_
  obtain ⟨x, c, h⟩ := bd_inv h
  rcases x with v | e
  · replace h := smr_l h
    refine go_callXn _ 5 rfl (e_D_included_n c) (fun _ _ => id) mk_D_included (by first | decide | exact ok0 (by omega) | exact ok1 (by omega) | exact ok2 (by omega) | exact ok7 (by omega)) rfl cv_L_41 wb_394 rfl ⟨(Nat.le_of_ble_eq_true rfl), (Nat.le_of_ble_eq_true rfl)⟩ ⟨(Nat.le_of_ble_eq_true rfl), (Nat.le_of_ble_eq_true rfl)⟩ (Nat.le_of_ble_eq_true rfl) rfl (3, 18) rfl ?_
    refine go_if_eq 15 6 rfl (by decide) (fun c => ?_) (fun c => ?_)
    · replace h := ite_t c h
      refine go_lconst 0 9 rfl (by decide) ?_
      obtain ⟨c, h⟩ := ck_inv h
      refine go_lastore 10 rfl (by first | decide | exact ok0 (by omega) | exact ok1 (by omega) | exact ok2 (by omega) | exact ok7 (by omega)) (inb_vp c) ?_
      obtain ⟨_, c, h⟩ := bd_inv h
      cases c
      refine go_goto 28 11 rfl (by decide) ?_
      refine go_iconst 0 18 rfl (by decide) ?_
      cases h
      exact go_xret 19 rfl rfl rfl rfl ⟨(Nat.le_of_ble_eq_true rfl), (Nat.le_of_ble_eq_true rfl)⟩ ⟨rfl, rfl⟩
    · replace h := ite_f c h
      refine go_lconst 1 7 rfl (by decide) ?_
      refine go_goto 16 8 rfl (by decide) ?_
      obtain ⟨c, h⟩ := ck_inv h
      refine go_lastore 10 rfl (by first | decide | exact ok0 (by omega) | exact ok1 (by omega) | exact ok2 (by omega) | exact ok7 (by omega)) (inb_vp c) ?_
      obtain ⟨_, c, h⟩ := bd_inv h
      cases c
      refine go_goto 28 11 rfl (by decide) ?_
      refine go_iconst 0 18 rfl (by decide) ?_
      cases h
      exact go_xret 19 rfl rfl rfl rfl ⟨(Nat.le_of_ble_eq_true rfl), (Nat.le_of_ble_eq_true rfl)⟩ ⟨rfl, rfl⟩
  · replace h := smr_r h
    obtain ⟨e, M9⟩ := e
    by_cases ce : e = 1
    · subst ce
      replace h := ite_t rfl h
      cases h
      exact go_callXt _ 5 rfl (e_D_included_t c) (fun _ _ => id) mk_D_included (by first | decide | exact ok0 (by omega) | exact ok1 (by omega) | exact ok2 (by omega) | exact ok7 (by omega)) rfl cv_L_41 wb_394 rfl ⟨(Nat.le_of_ble_eq_true rfl), (Nat.le_of_ble_eq_true rfl)⟩ ⟨(Nat.le_of_ble_eq_true rfl), (Nat.le_of_ble_eq_true rfl)⟩ (Nat.le_of_ble_eq_true rfl) rfl (3, 18) rfl (gt_catch (hh := hh_L_included) (E := "java/lang/IllegalArgumentException") (v := 1) 0 _ rfl (by decide) (by decide) wb_137 nw_149 rfl (fun y hy => by simp at hy) 12 (Or.inr rfl) (Nat.le_of_ble_eq_true rfl) rfl (by decide) rfl rfl ⟨(Nat.le_of_ble_eq_true rfl), (Nat.le_of_ble_eq_true rfl)⟩ ⟨rfl, rfl⟩)
    · replace h := ite_f ce h
      by_cases ce : e = 2
      · subst ce
        replace h := ite_t rfl h
        cases h
        exact go_callXt _ 5 rfl (e_D_included_t c) (fun _ _ => id) mk_D_included (by first | decide | exact ok0 (by omega) | exact ok1 (by omega) | exact ok2 (by omega) | exact ok7 (by omega)) rfl cv_L_41 wb_394 rfl ⟨(Nat.le_of_ble_eq_true rfl), (Nat.le_of_ble_eq_true rfl)⟩ ⟨(Nat.le_of_ble_eq_true rfl), (Nat.le_of_ble_eq_true rfl)⟩ (Nat.le_of_ble_eq_true rfl) rfl (3, 18) rfl (gt_catch (hh := hh_L_included) (E := "java/lang/IllegalStateException") (v := 2) 1 _ rfl (by decide) (by decide) wb_138 nw_217 rfl (fun y hy => by obtain rfl : y = (tableOf hh_L_included)[0] := (by simpa [hh_L_included, tableOf] using hy); exact ⟨by decide, "java/lang/IllegalArgumentException", wb_137, Or.inl ⟨rfl, rfl⟩⟩) 15 (Or.inr rfl) (Nat.le_of_ble_eq_true rfl) rfl (by decide) rfl rfl ⟨(Nat.le_of_ble_eq_true rfl), (Nat.le_of_ble_eq_true rfl)⟩ ⟨rfl, rfl⟩)
      · replace h := ite_f ce h
        cases h
def X_L_witness : MX := (⟨"OmegaDeskLaw", "witness", "(LOmegaDesk;I[J)I"⟩, method_11_code, 4, some .int, { frames := 7, cells := 1, slots := 6, locals := 111 },
  [(0, .aload_n 2, 1), (1, .iconst 0, 2), (2, .aload_n 0, 3), (3, .iload_n 1, 4), (4, .invokevirtual 45, 7), (7, .i2l, 8), (8, .lastore, 9), (9, .goto 9, 12), (12, .astore_n 3, 13), (13, .iconst 1, 14), (14, .ireturn, 15), (15, .astore_n 3, 16), (16, .iconst 2, 17), (17, .ireturn, 18), (18, .iconst 0, 19), (19, .ireturn, 20)])
def hh_L_witness : List (Nat × Nat × Nat × Nat) := [(0, 9, 12, 13), (0, 9, 15, 48)]
set_option maxRecDepth 20000 in
theorem mk_L_witness : MkW X_L_witness hh_L_witness := ⟨by unfold TBk; decide +kernel, by decide +kernel, wb_474, ⟨by decide, by decide⟩, wb_0⟩
theorem cv_L_45 : CV "OmegaDeskLaw" 45 X_D_witness 1 3 := ⟨Or.inl wb_476, ⟨wb_477, wb_478⟩, by decide +kernel, F_D, 4, rfl⟩
def m_L_witness (a1 : Int32) (a2 : Nat) (M : Mm) : Option (Int32 × Mm) :=
  bd (m_D_witness a1 M) fun r1 =>
  smr r1 (fun e3 => if e3.1 = 1 then some (1, e3.2) else if e3.1 = 3 then some (2, e3.2) else none) fun v2 =>
  ck (inb (0 : Int32) (lenL a2)) <|
  bd (some (uL M (2, a2) (0 : Int32).toNatClampNeg (v2.toInt64))) fun M4 =>
  some ((0 : Int32), M4)
set_option maxRecDepth 20000 in
theorem e_L_witness {l : Launch} {a1 : Int32} {a2 : Nat} {M : Mm} {r : Int32 × Mm} (h2 : a2 < 4) (h : m_L_witness a1 a2 M = some r) : EvW l X_L_witness hh_L_witness [vr 3 0, vi a1, vr 2 a2] M (fun v M2 => v = (some (vi r.1)) ∧ M2 = r.2) := by
  refine EvW.of mk_L_witness [(0, vr 3 0), (1, vi a1), (2, vr 2 a2)] (fun _ => rfl) (fun _ => (Nat.le_of_ble_eq_true rfl)) ?_
  unfold m_L_witness at h
  refine go_aload_n 0 rfl 2 rfl rfl ?_
  refine go_iconst 0 1 rfl (by decide) ?_
  refine go_aload_n 2 rfl 0 rfl rfl ?_
  refine go_iload_n 3 rfl 1 rfl rfl ?_
  obtain ⟨x, c, h⟩ := bd_inv h
  rcases x with v | e
  · replace h := smr_l h
    refine go_callXn _ 4 rfl (e_D_witness_n c) (fun _ _ => id) mk_D_witness (by first | decide | exact ok0 (by omega) | exact ok1 (by omega) | exact ok2 (by omega) | exact ok7 (by omega)) rfl cv_L_45 wb_476 rfl ⟨(Nat.le_of_ble_eq_true rfl), (Nat.le_of_ble_eq_true rfl)⟩ ⟨(Nat.le_of_ble_eq_true rfl), (Nat.le_of_ble_eq_true rfl)⟩ (Nat.le_of_ble_eq_true rfl) rfl (1, 6) rfl ?_
    refine go_i2l 5 rfl ?_
    obtain ⟨c, h⟩ := ck_inv h
    refine go_lastore 6 rfl (by first | decide | exact ok0 (by omega) | exact ok1 (by omega) | exact ok2 (by omega) | exact ok7 (by omega)) (inb_vp c) ?_
    obtain ⟨_, c, h⟩ := bd_inv h
    cases c
    refine go_goto 18 7 rfl (by decide) ?_
    refine go_iconst 0 14 rfl (by decide) ?_
    cases h
    exact go_xret 15 rfl rfl rfl rfl ⟨(Nat.le_of_ble_eq_true rfl), (Nat.le_of_ble_eq_true rfl)⟩ ⟨rfl, rfl⟩
  · replace h := smr_r h
    obtain ⟨e, M9⟩ := e
    by_cases ce : e = 1
    · subst ce
      replace h := ite_t rfl h
      cases h
      exact go_callXt _ 4 rfl (e_D_witness_t c) (fun _ _ => id) mk_D_witness (by first | decide | exact ok0 (by omega) | exact ok1 (by omega) | exact ok2 (by omega) | exact ok7 (by omega)) rfl cv_L_45 wb_476 rfl ⟨(Nat.le_of_ble_eq_true rfl), (Nat.le_of_ble_eq_true rfl)⟩ ⟨(Nat.le_of_ble_eq_true rfl), (Nat.le_of_ble_eq_true rfl)⟩ (Nat.le_of_ble_eq_true rfl) rfl (1, 6) rfl (gt_catch (hh := hh_L_witness) (E := "java/lang/IllegalArgumentException") (v := 1) 0 _ rfl (by decide) (by decide) wb_137 nw_149 rfl (fun y hy => by simp at hy) 8 (Or.inl ⟨3, rfl, rfl⟩) (Nat.le_of_ble_eq_true rfl) rfl (by decide) rfl rfl ⟨(Nat.le_of_ble_eq_true rfl), (Nat.le_of_ble_eq_true rfl)⟩ ⟨rfl, rfl⟩)
    · replace h := ite_f ce h
      by_cases ce : e = 3
      · subst ce
        replace h := ite_t rfl h
        cases h
        exact go_callXt _ 4 rfl (e_D_witness_t c) (fun _ _ => id) mk_D_witness (by first | decide | exact ok0 (by omega) | exact ok1 (by omega) | exact ok2 (by omega) | exact ok7 (by omega)) rfl cv_L_45 wb_476 rfl ⟨(Nat.le_of_ble_eq_true rfl), (Nat.le_of_ble_eq_true rfl)⟩ ⟨(Nat.le_of_ble_eq_true rfl), (Nat.le_of_ble_eq_true rfl)⟩ (Nat.le_of_ble_eq_true rfl) rfl (1, 6) rfl (gt_catch (hh := hh_L_witness) (E := "java/util/NoSuchElementException") (v := 2) 1 _ rfl (by decide) (by decide) wb_475 nw_483 rfl (fun y hy => by obtain rfl : y = (tableOf hh_L_witness)[0] := (by simpa [hh_L_witness, tableOf] using hy); exact ⟨by decide, "java/lang/IllegalArgumentException", wb_137, Or.inr ⟨rfl, rfl⟩⟩) 11 (Or.inl ⟨3, rfl, rfl⟩) (Nat.le_of_ble_eq_true rfl) rfl (by decide) rfl rfl ⟨(Nat.le_of_ble_eq_true rfl), (Nat.le_of_ble_eq_true rfl)⟩ ⟨rfl, rfl⟩)
      · replace h := ite_f ce h
        cases h
def X_L_states : MX := (⟨"OmegaDeskLaw", "states", "(LOmegaDesk;I[J)I"⟩, method_12_code, 4, some .int, { frames := 8, cells := 1, slots := 6, locals := 132 },
  [(0, .aload_n 2, 1), (1, .iconst 0, 2), (2, .aload_n 0, 3), (3, .iload_n 1, 4), (4, .invokevirtual 50, 7), (7, .i2l, 8), (8, .lastore, 9), (9, .goto 6, 12), (12, .astore_n 3, 13), (13, .iconst 1, 14), (14, .ireturn, 15), (15, .iconst 0, 16), (16, .ireturn, 17)])
def hh_L_states : List (Nat × Nat × Nat × Nat) := [(0, 9, 12, 13)]
set_option maxRecDepth 20000 in
theorem mk_L_states : MkW X_L_states hh_L_states := ⟨by unfold TBk; decide +kernel, by decide +kernel, wb_499, ⟨by decide, by decide⟩, wb_0⟩
theorem cv_L_50 : CV "OmegaDeskLaw" 50 X_D_states 1 3 := ⟨Or.inl wb_500, ⟨wb_501, wb_502⟩, by decide +kernel, F_D, 4, rfl⟩
def m_L_states (a1 : Int32) (a2 : Nat) (M : Mm) : Option (Int32 × Mm) :=
  bd (m_D_states a1 M) fun r1 =>
  smr r1 (fun e3 => if e3.1 = 1 then some (1, e3.2) else none) fun v2 =>
  ck (inb (0 : Int32) (lenL a2)) <|
  bd (some (uL M (2, a2) (0 : Int32).toNatClampNeg (v2.toInt64))) fun M4 =>
  some ((0 : Int32), M4)
set_option maxRecDepth 20000 in
theorem e_L_states {l : Launch} {a1 : Int32} {a2 : Nat} {M : Mm} {r : Int32 × Mm} (h2 : a2 < 4) (h : m_L_states a1 a2 M = some r) : EvW l X_L_states hh_L_states [vr 3 0, vi a1, vr 2 a2] M (fun v M2 => v = (some (vi r.1)) ∧ M2 = r.2) := by
  refine EvW.of mk_L_states [(0, vr 3 0), (1, vi a1), (2, vr 2 a2)] (fun _ => rfl) (fun _ => (Nat.le_of_ble_eq_true rfl)) ?_
  unfold m_L_states at h
  refine go_aload_n 0 rfl 2 rfl rfl ?_
  refine go_iconst 0 1 rfl (by decide) ?_
  refine go_aload_n 2 rfl 0 rfl rfl ?_
  refine go_iload_n 3 rfl 1 rfl rfl ?_
  obtain ⟨x, c, h⟩ := bd_inv h
  rcases x with v | e
  · replace h := smr_l h
    refine go_callXn _ 4 rfl (e_D_states_n c) (fun _ _ => id) mk_D_states (by first | decide | exact ok0 (by omega) | exact ok1 (by omega) | exact ok2 (by omega) | exact ok7 (by omega)) rfl cv_L_50 wb_500 rfl ⟨(Nat.le_of_ble_eq_true rfl), (Nat.le_of_ble_eq_true rfl)⟩ ⟨(Nat.le_of_ble_eq_true rfl), (Nat.le_of_ble_eq_true rfl)⟩ (Nat.le_of_ble_eq_true rfl) rfl (1, 6) rfl ?_
    refine go_i2l 5 rfl ?_
    obtain ⟨c, h⟩ := ck_inv h
    refine go_lastore 6 rfl (by first | decide | exact ok0 (by omega) | exact ok1 (by omega) | exact ok2 (by omega) | exact ok7 (by omega)) (inb_vp c) ?_
    obtain ⟨_, c, h⟩ := bd_inv h
    cases c
    refine go_goto 15 7 rfl (by decide) ?_
    refine go_iconst 0 11 rfl (by decide) ?_
    cases h
    exact go_xret 12 rfl rfl rfl rfl ⟨(Nat.le_of_ble_eq_true rfl), (Nat.le_of_ble_eq_true rfl)⟩ ⟨rfl, rfl⟩
  · replace h := smr_r h
    obtain ⟨e, M9⟩ := e
    by_cases ce : e = 1
    · subst ce
      replace h := ite_t rfl h
      cases h
      exact go_callXt _ 4 rfl (e_D_states_t c) (fun _ _ => id) mk_D_states (by first | decide | exact ok0 (by omega) | exact ok1 (by omega) | exact ok2 (by omega) | exact ok7 (by omega)) rfl cv_L_50 wb_500 rfl ⟨(Nat.le_of_ble_eq_true rfl), (Nat.le_of_ble_eq_true rfl)⟩ ⟨(Nat.le_of_ble_eq_true rfl), (Nat.le_of_ble_eq_true rfl)⟩ (Nat.le_of_ble_eq_true rfl) rfl (1, 6) rfl (gt_catch (hh := hh_L_states) (E := "java/lang/IllegalArgumentException") (v := 1) 0 _ rfl (by decide) (by decide) wb_137 nw_149 rfl (fun y hy => by simp at hy) 8 (Or.inl ⟨3, rfl, rfl⟩) (Nat.le_of_ble_eq_true rfl) rfl (by decide) rfl rfl ⟨(Nat.le_of_ble_eq_true rfl), (Nat.le_of_ble_eq_true rfl)⟩ ⟨rfl, rfl⟩)
    · replace h := ite_f ce h
      cases h
def X_L_good : MX := (⟨"OmegaDeskLaw", "good", "(LOmegaDesk;II[J)I"⟩, method_13_code, 5, some .int, { frames := 8, cells := 2, slots := 12, locals := 134 },
  [(0, .aload_n 3, 1), (1, .iconst 0, 2), (2, .aload_n 0, 3), (3, .iload_n 1, 4), (4, .iload_n 2, 5), (5, .invokevirtual 53, 8), (8, .ifCond .eq 7, 11), (11, .lconst 1, 12), (12, .goto 4, 15), (15, .lconst 0, 16), (16, .lastore, 17), (17, .goto 7, 20), (20, .astore 4, 22), (22, .iconst 1, 23), (23, .ireturn, 24), (24, .iconst 0, 25), (25, .ireturn, 26)])
def hh_L_good : List (Nat × Nat × Nat × Nat) := [(0, 17, 20, 13)]
set_option maxRecDepth 20000 in
theorem mk_L_good : MkW X_L_good hh_L_good := ⟨by unfold TBk; decide +kernel, by decide +kernel, wb_506, ⟨by decide, by decide⟩, wb_0⟩
theorem cv_L_53 : CV "OmegaDeskLaw" 53 X_D_good 2 3 := ⟨Or.inl wb_507, ⟨wb_508, wb_509⟩, by decide +kernel, F_D, 4, rfl⟩
def m_L_good (a1 : Int32) (a2 : Int32) (a3 : Nat) (M : Mm) : Option (Int32 × Mm) :=
  bd (m_D_good a1 a2 M) fun r1 =>
  smr r1 (fun e3 => if e3.1 = 1 then some (1, e3.2) else none) fun v2 =>
  if (bI v2) = 0 then
    ck (inb (0 : Int32) (lenL a3)) <|
    bd (some (uL M (2, a3) (0 : Int32).toNatClampNeg (0 : Int64))) fun M4 =>
    some ((0 : Int32), M4)
  else
    ck (inb (0 : Int32) (lenL a3)) <|
    bd (some (uL M (2, a3) (0 : Int32).toNatClampNeg (1 : Int64))) fun M5 =>
    some ((0 : Int32), M5)
set_option maxRecDepth 20000 in
theorem e_L_good {l : Launch} {a1 : Int32} {a2 : Int32} {a3 : Nat} {M : Mm} {r : Int32 × Mm} (h3 : a3 < 4) (h : m_L_good a1 a2 a3 M = some r) : EvW l X_L_good hh_L_good [vr 3 0, vi a1, vi a2, vr 2 a3] M (fun v M2 => v = (some (vi r.1)) ∧ M2 = r.2) := by
  refine EvW.of mk_L_good [(0, vr 3 0), (1, vi a1), (2, vi a2), (3, vr 2 a3)] (fun _ => rfl) (fun _ => (Nat.le_of_ble_eq_true rfl)) ?_
  unfold m_L_good at h
  refine go_aload_n 0 rfl 3 rfl rfl ?_
  refine go_iconst 0 1 rfl (by decide) ?_
  refine go_aload_n 2 rfl 0 rfl rfl ?_
  refine go_iload_n 3 rfl 1 rfl rfl ?_
  refine go_iload_n 4 rfl 2 rfl rfl ?_
  obtain ⟨x, c, h⟩ := bd_inv h
  rcases x with v | e
  · replace h := smr_l h
    refine go_callXn _ 5 rfl (e_D_good_n c) (fun _ _ => id) mk_D_good (by first | decide | exact ok0 (by omega) | exact ok1 (by omega) | exact ok2 (by omega) | exact ok7 (by omega)) rfl cv_L_53 wb_507 rfl ⟨(Nat.le_of_ble_eq_true rfl), (Nat.le_of_ble_eq_true rfl)⟩ ⟨(Nat.le_of_ble_eq_true rfl), (Nat.le_of_ble_eq_true rfl)⟩ (Nat.le_of_ble_eq_true rfl) rfl (2, 12) rfl ?_
    refine go_if_eq 15 6 rfl (by decide) (fun c => ?_) (fun c => ?_)
    · replace h := ite_t c h
      refine go_lconst 0 9 rfl (by decide) ?_
      obtain ⟨c, h⟩ := ck_inv h
      refine go_lastore 10 rfl (by first | decide | exact ok0 (by omega) | exact ok1 (by omega) | exact ok2 (by omega) | exact ok7 (by omega)) (inb_vp c) ?_
      obtain ⟨_, c, h⟩ := bd_inv h
      cases c
      refine go_goto 24 11 rfl (by decide) ?_
      refine go_iconst 0 15 rfl (by decide) ?_
      cases h
      exact go_xret 16 rfl rfl rfl rfl ⟨(Nat.le_of_ble_eq_true rfl), (Nat.le_of_ble_eq_true rfl)⟩ ⟨rfl, rfl⟩
    · replace h := ite_f c h
      refine go_lconst 1 7 rfl (by decide) ?_
      refine go_goto 16 8 rfl (by decide) ?_
      obtain ⟨c, h⟩ := ck_inv h
      refine go_lastore 10 rfl (by first | decide | exact ok0 (by omega) | exact ok1 (by omega) | exact ok2 (by omega) | exact ok7 (by omega)) (inb_vp c) ?_
      obtain ⟨_, c, h⟩ := bd_inv h
      cases c
      refine go_goto 24 11 rfl (by decide) ?_
      refine go_iconst 0 15 rfl (by decide) ?_
      cases h
      exact go_xret 16 rfl rfl rfl rfl ⟨(Nat.le_of_ble_eq_true rfl), (Nat.le_of_ble_eq_true rfl)⟩ ⟨rfl, rfl⟩
  · replace h := smr_r h
    obtain ⟨e, M9⟩ := e
    by_cases ce : e = 1
    · subst ce
      replace h := ite_t rfl h
      cases h
      exact go_callXt _ 5 rfl (e_D_good_t c) (fun _ _ => id) mk_D_good (by first | decide | exact ok0 (by omega) | exact ok1 (by omega) | exact ok2 (by omega) | exact ok7 (by omega)) rfl cv_L_53 wb_507 rfl ⟨(Nat.le_of_ble_eq_true rfl), (Nat.le_of_ble_eq_true rfl)⟩ ⟨(Nat.le_of_ble_eq_true rfl), (Nat.le_of_ble_eq_true rfl)⟩ (Nat.le_of_ble_eq_true rfl) rfl (2, 12) rfl (gt_catch (hh := hh_L_good) (E := "java/lang/IllegalArgumentException") (v := 1) 0 _ rfl (by decide) (by decide) wb_137 nw_149 rfl (fun y hy => by simp at hy) 12 (Or.inr rfl) (Nat.le_of_ble_eq_true rfl) rfl (by decide) rfl rfl ⟨(Nat.le_of_ble_eq_true rfl), (Nat.le_of_ble_eq_true rfl)⟩ ⟨rfl, rfl⟩)
    · replace h := ite_f ce h
      cases h
def X_L_has : MX := (⟨"OmegaDeskLaw", "has", "(LOmegaDesk;IIII[J)I"⟩, method_14_code, 7, some .int, { frames := 9, cells := 2, slots := 12, locals := 160 },
  [(0, .aload 5, 2), (2, .iconst 0, 3), (3, .aload_n 0, 4), (4, .iload_n 1, 5), (5, .iload_n 2, 6), (6, .iload_n 3, 7), (7, .iload 4, 9), (9, .invokevirtual 56, 12), (12, .ifCond .eq 7, 15), (15, .lconst 1, 16), (16, .goto 4, 19), (19, .lconst 0, 20), (20, .lastore, 21), (21, .goto 7, 24), (24, .astore 6, 26), (26, .iconst 1, 27), (27, .ireturn, 28), (28, .iconst 0, 29), (29, .ireturn, 30)])
def hh_L_has : List (Nat × Nat × Nat × Nat) := [(0, 21, 24, 13)]
set_option maxRecDepth 20000 in
theorem mk_L_has : MkW X_L_has hh_L_has := ⟨by unfold TBk; decide +kernel, by decide +kernel, wb_514, ⟨by decide, by decide⟩, wb_0⟩
theorem cv_L_56 : CV "OmegaDeskLaw" 56 X_D_has 4 3 := ⟨Or.inl wb_515, ⟨wb_516, wb_517⟩, by decide +kernel, F_D, 4, rfl⟩
def m_L_has (a1 : Int32) (a2 : Int32) (a3 : Int32) (a4 : Int32) (a5 : Nat) (M : Mm) : Option (Int32 × Mm) :=
  bd (m_D_has a1 a2 a3 a4 M) fun r1 =>
  smr r1 (fun e3 => if e3.1 = 1 then some (1, e3.2) else none) fun v2 =>
  if (bI v2) = 0 then
    ck (inb (0 : Int32) (lenL a5)) <|
    bd (some (uL M (2, a5) (0 : Int32).toNatClampNeg (0 : Int64))) fun M4 =>
    some ((0 : Int32), M4)
  else
    ck (inb (0 : Int32) (lenL a5)) <|
    bd (some (uL M (2, a5) (0 : Int32).toNatClampNeg (1 : Int64))) fun M5 =>
    some ((0 : Int32), M5)
set_option maxRecDepth 20000 in
theorem e_L_has {l : Launch} {a1 : Int32} {a2 : Int32} {a3 : Int32} {a4 : Int32} {a5 : Nat} {M : Mm} {r : Int32 × Mm} (h5 : a5 < 4) (h : m_L_has a1 a2 a3 a4 a5 M = some r) : EvW l X_L_has hh_L_has [vr 3 0, vi a1, vi a2, vi a3, vi a4, vr 2 a5] M (fun v M2 => v = (some (vi r.1)) ∧ M2 = r.2) := by
  refine EvW.of mk_L_has [(0, vr 3 0), (1, vi a1), (2, vi a2), (3, vi a3), (4, vi a4), (5, vr 2 a5)] (fun _ => rfl) (fun _ => (Nat.le_of_ble_eq_true rfl)) ?_
  unfold m_L_has at h
  refine go_aload 0 rfl 5 rfl ?_
  refine go_iconst 0 1 rfl (by decide) ?_
  refine go_aload_n 2 rfl 0 rfl rfl ?_
  refine go_iload_n 3 rfl 1 rfl rfl ?_
  refine go_iload_n 4 rfl 2 rfl rfl ?_
  refine go_iload_n 5 rfl 3 rfl rfl ?_
  refine go_iload 6 rfl 4 rfl ?_
  obtain ⟨x, c, h⟩ := bd_inv h
  rcases x with v | e
  · replace h := smr_l h
    refine go_callXn _ 7 rfl (e_D_has_n c) (fun _ _ => id) mk_D_has (by first | decide | exact ok0 (by omega) | exact ok1 (by omega) | exact ok2 (by omega) | exact ok7 (by omega)) rfl cv_L_56 wb_515 rfl ⟨(Nat.le_of_ble_eq_true rfl), (Nat.le_of_ble_eq_true rfl)⟩ ⟨(Nat.le_of_ble_eq_true rfl), (Nat.le_of_ble_eq_true rfl)⟩ (Nat.le_of_ble_eq_true rfl) rfl (2, 12) rfl ?_
    refine go_if_eq 19 8 rfl (by decide) (fun c => ?_) (fun c => ?_)
    · replace h := ite_t c h
      refine go_lconst 0 11 rfl (by decide) ?_
      obtain ⟨c, h⟩ := ck_inv h
      refine go_lastore 12 rfl (by first | decide | exact ok0 (by omega) | exact ok1 (by omega) | exact ok2 (by omega) | exact ok7 (by omega)) (inb_vp c) ?_
      obtain ⟨_, c, h⟩ := bd_inv h
      cases c
      refine go_goto 28 13 rfl (by decide) ?_
      refine go_iconst 0 17 rfl (by decide) ?_
      cases h
      exact go_xret 18 rfl rfl rfl rfl ⟨(Nat.le_of_ble_eq_true rfl), (Nat.le_of_ble_eq_true rfl)⟩ ⟨rfl, rfl⟩
    · replace h := ite_f c h
      refine go_lconst 1 9 rfl (by decide) ?_
      refine go_goto 20 10 rfl (by decide) ?_
      obtain ⟨c, h⟩ := ck_inv h
      refine go_lastore 12 rfl (by first | decide | exact ok0 (by omega) | exact ok1 (by omega) | exact ok2 (by omega) | exact ok7 (by omega)) (inb_vp c) ?_
      obtain ⟨_, c, h⟩ := bd_inv h
      cases c
      refine go_goto 28 13 rfl (by decide) ?_
      refine go_iconst 0 17 rfl (by decide) ?_
      cases h
      exact go_xret 18 rfl rfl rfl rfl ⟨(Nat.le_of_ble_eq_true rfl), (Nat.le_of_ble_eq_true rfl)⟩ ⟨rfl, rfl⟩
  · replace h := smr_r h
    obtain ⟨e, M9⟩ := e
    by_cases ce : e = 1
    · subst ce
      replace h := ite_t rfl h
      cases h
      exact go_callXt _ 7 rfl (e_D_has_t c) (fun _ _ => id) mk_D_has (by first | decide | exact ok0 (by omega) | exact ok1 (by omega) | exact ok2 (by omega) | exact ok7 (by omega)) rfl cv_L_56 wb_515 rfl ⟨(Nat.le_of_ble_eq_true rfl), (Nat.le_of_ble_eq_true rfl)⟩ ⟨(Nat.le_of_ble_eq_true rfl), (Nat.le_of_ble_eq_true rfl)⟩ (Nat.le_of_ble_eq_true rfl) rfl (2, 12) rfl (gt_catch (hh := hh_L_has) (E := "java/lang/IllegalArgumentException") (v := 1) 0 _ rfl (by decide) (by decide) wb_137 nw_149 rfl (fun y hy => by simp at hy) 14 (Or.inr rfl) (Nat.le_of_ble_eq_true rfl) rfl (by decide) rfl rfl ⟨(Nat.le_of_ble_eq_true rfl), (Nat.le_of_ble_eq_true rfl)⟩ ⟨rfl, rfl⟩)
    · replace h := ite_f ce h
      cases h
