def X_P_ends : MX := (⟨"OmegaDesk$Passage", "ends", "(II)I"⟩, prog_4_method_2_code, 2, some .int, { frames := 0, cells := 0, slots := 0, locals := 0 },
  [(0, .iload_n 0, 1), (1, .bipush 8, 3), (3, .iload_n 1, 4), (4, .imul, 5), (5, .iushr, 6), (6, .bipush 15, 8), (8, .iand, 9), (9, .ireturn, 10)])
set_option maxRecDepth 20000 in
theorem mk_P_ends : Mk X_P_ends := ⟨by unfold TBk; decide +kernel, by decide +kernel, wb_329, ⟨by decide, by decide⟩, rfl, rfl, wb_14⟩
def m_P_ends (a0 : Int32) (a1 : Int32) : Option (Int32) :=
  some (((a0.toUInt32 >>> (((8 : Int32) * a1).toUInt32 &&& Int32.toUInt32 31)).toInt32) &&& (15 : Int32))
set_option maxRecDepth 20000 in
theorem e_P_ends {l : Launch} {a0 : Int32} {a1 : Int32} {M : Mm} {r : Int32}  (h : m_P_ends a0 a1 = some r) : Ev l X_P_ends [vi a0, vi a1] M (fun v M2 => v = (some (vi r)) ∧ M2 = M) := by
  refine Ev.of mk_P_ends [(0, vi a0), (1, vi a1)] (fun _ => rfl) (fun _ => (Nat.le_of_ble_eq_true rfl)) ?_
  unfold m_P_ends at h
  refine go_iload_n 0 rfl 0 rfl rfl ?_
  refine go_bipush 8 1 rfl (by decide) ?_
  refine go_iload_n 2 rfl 1 rfl rfl ?_
  refine go_imul 3 rfl ?_
  refine go_iushr 4 rfl ?_
  refine go_bipush 15 5 rfl (by decide) ?_
  refine go_iand 6 rfl ?_
  cases h
  exact go_ireturn 7 rfl rfl rfl ⟨rfl, rfl⟩
def X_P_goodEnds : MX := (⟨"OmegaDesk$Passage", "goodEnds", "(II)I"⟩, prog_4_method_3_code, 2, some .int, { frames := 0, cells := 0, slots := 0, locals := 0 },
  [(0, .iload_n 0, 1), (1, .bipush 8, 3), (3, .iload_n 1, 4), (4, .imul, 5), (5, .iconst 4, 6), (6, .iadd, 7), (7, .iushr, 8), (8, .bipush 15, 10), (10, .iand, 11), (11, .ireturn, 12)])
set_option maxRecDepth 20000 in
theorem mk_P_goodEnds : Mk X_P_goodEnds := ⟨by unfold TBk; decide +kernel, by decide +kernel, wb_332, ⟨by decide, by decide⟩, rfl, rfl, wb_14⟩
def m_P_goodEnds (a0 : Int32) (a1 : Int32) : Option (Int32) :=
  some (((a0.toUInt32 >>> ((((8 : Int32) * a1) + (4 : Int32)).toUInt32 &&& Int32.toUInt32 31)).toInt32) &&& (15 : Int32))
set_option maxRecDepth 20000 in
theorem e_P_goodEnds {l : Launch} {a0 : Int32} {a1 : Int32} {M : Mm} {r : Int32}  (h : m_P_goodEnds a0 a1 = some r) : Ev l X_P_goodEnds [vi a0, vi a1] M (fun v M2 => v = (some (vi r)) ∧ M2 = M) := by
  refine Ev.of mk_P_goodEnds [(0, vi a0), (1, vi a1)] (fun _ => rfl) (fun _ => (Nat.le_of_ble_eq_true rfl)) ?_
  unfold m_P_goodEnds at h
  refine go_iload_n 0 rfl 0 rfl rfl ?_
  refine go_bipush 8 1 rfl (by decide) ?_
  refine go_iload_n 2 rfl 1 rfl rfl ?_
  refine go_imul 3 rfl ?_
  refine go_iconst 4 4 rfl (by decide) ?_
  refine go_iadd 5 rfl ?_
  refine go_iushr 6 rfl ?_
  refine go_bipush 15 7 rfl (by decide) ?_
  refine go_iand 8 rfl ?_
  cases h
  exact go_ireturn 9 rfl rfl rfl ⟨rfl, rfl⟩
def X_P_fromStart : MX := (⟨"OmegaDesk$Passage", "fromStart", "(I)I"⟩, prog_4_method_4_code, 1, some .int, { frames := 1, cells := 0, slots := 0, locals := 21 },
  [(0, .iload_n 0, 1), (1, .iconst 0, 2), (2, .invokestatic 11, 5), (5, .ireturn, 6)])
set_option maxRecDepth 20000 in
theorem mk_P_fromStart : Mk X_P_fromStart := ⟨by unfold TBk; decide +kernel, by decide +kernel, wb_339, ⟨by decide, by decide⟩, rfl, rfl, wb_14⟩
theorem cs_P_11 : CS "OmegaDesk$Passage" 11 X_P_ends 2 := ⟨Or.inl wb_336, wb_328, by decide +kernel⟩
def m_P_fromStart (a0 : Int32) : Option (Int32) :=
  bd (m_P_ends a0 (0 : Int32)) fun r1 =>
  some r1
set_option maxRecDepth 20000 in
theorem e_P_fromStart {l : Launch} {a0 : Int32} {M : Mm} {r : Int32}  (h : m_P_fromStart a0 = some r) : Ev l X_P_fromStart [vi a0] M (fun v M2 => v = (some (vi r)) ∧ M2 = M) := by
  refine Ev.of mk_P_fromStart [(0, vi a0)] (fun _ => rfl) (fun _ => (Nat.le_of_ble_eq_true rfl)) ?_
  unfold m_P_fromStart at h
  refine go_iload_n 0 rfl 0 rfl rfl ?_
  refine go_iconst 0 1 rfl (by decide) ?_
  obtain ⟨r1, c, h⟩ := bd_inv h
  refine go_callS1 _ 2 rfl (e_P_ends c) mk_P_ends cs_P_11 rfl ⟨(Nat.le_of_ble_eq_true rfl), (Nat.le_of_ble_eq_true rfl)⟩ (Nat.le_of_ble_eq_true rfl) rfl ?_
  cases h
  exact go_ireturn 3 rfl rfl rfl ⟨rfl, rfl⟩
def X_P_chained : MX := (⟨"OmegaDesk$Passage", "chained", "(I)I"⟩, prog_4_method_5_code, 4, some .int, { frames := 1, cells := 0, slots := 0, locals := 21 },
  [(0, .iload_n 0, 1), (1, .istore_n 1, 2), (2, .iconst 0, 3), (3, .istore_n 2, 4), (4, .iload_n 2, 5), (5, .iconst 4, 6), (6, .if_icmp .ge 47, 9), (9, .iconst 0, 10), (10, .istore_n 3, 11), (11, .iload_n 3, 12), (12, .iconst 4, 13), (13, .if_icmp .ge 34, 16), (16, .iload_n 1, 17), (17, .iload_n 3, 18), (18, .invokestatic 11, 21), (21, .iload_n 2, 22), (22, .ishr, 23), (23, .iconst 1, 24), (24, .iand, 25), (25, .ifCond .eq 16, 28), (28, .iload_n 1, 29), (29, .iload_n 1, 30), (30, .iload_n 2, 31), (31, .invokestatic 11, 34), (34, .bipush 8, 36), (36, .iload_n 3, 37), (37, .imul, 38), (38, .ishl, 39), (39, .ior, 40), (40, .istore_n 1, 41), (41, .iinc 3 1, 44), (44, .goto (-33), 47), (47, .iinc 2 1, 50), (50, .goto (-46), 53), (53, .iload_n 1, 54), (54, .ireturn, 55)])
set_option maxRecDepth 20000 in
theorem mk_P_chained : Mk X_P_chained := ⟨by unfold TBk; decide +kernel, by decide +kernel, wb_335, ⟨by decide, by decide⟩, rfl, rfl, wb_14⟩
def b_P_chained_11 (c2 : Int32) (s : Int32 × Int32) : Option ((Int32 × Int32) ⊕ (Int32 × Int32)) :=
  if (4 : Int32) ≤ s.2 then
    some (Sum.inr (s.1, s.2))
  else
    bd (m_P_ends s.1 s.2) fun r1 =>
    if ((r1 >>> (c2 &&& 31)) &&& (1 : Int32)) = 0 then
      some (Sum.inl (s.1, (s.2 + 1)))
    else
      bd (m_P_ends s.1 c2) fun r2 =>
      bd (some (s.1 ||| (r2 <<< (((8 : Int32) * s.2) &&& 31)))) fun x3 =>
      some (Sum.inl (x3, (s.2 + 1)))
def b_P_chained_4 (s : Int32 × Int32) : Option ((Int32 × Int32) ⊕ (Int32 × Int32)) :=
  if (4 : Int32) ≤ s.2 then
    some (Sum.inr (s.1, s.2))
  else
    bd (lp (b_P_chained_11 s.2) (s.1, (0 : Int32))) fun r4 =>
    some (Sum.inl (r4.1, (s.2 + 1)))
def m_P_chained (a0 : Int32) : Option (Int32) :=
  bd (lp (b_P_chained_4) (a0, (0 : Int32))) fun r5 =>
  some r5.1
set_option maxRecDepth 20000 in
theorem w_P_chained_11 {l : Launch} {post : Option PV → Mm → Prop} (c0 : Int32) (c2 : Int32) (M : Mm)  {r : Int32 × Int32} (kk : Go l X_P_chained post 47 [(0, vi c0), (1, vi r.1), (2, vi c2), (3, vi r.2)] [] M) : ∀ (n : Nat) (s : Int32 × Int32), lpN (b_P_chained_11 c2) n s = some r → Go l X_P_chained post 11 [(0, vi c0), (1, vi s.1), (2, vi c2), (3, vi s.2)] [] M := by
  intro n
  induction n with
  | zero => intro s hc; exact (lpN_0 hc).elim
  | succ n ih =>
    intro s hc
    obtain ⟨q, h, hc⟩ := lpN_inv hc
    unfold b_P_chained_11 at h
    refine go_iload_n 9 rfl 3 rfl rfl ?_
    refine go_iconst 4 10 rfl (by decide) ?_
    refine go_icmp_ge 47 11 rfl (by decide) (fun c => ?_) (fun c => ?_)
    · replace h := ite_t c h
      cases h
      obtain rfl := lpq_r hc
      exact kk
    · replace h := ite_f c h
      refine go_iload_n 12 rfl 1 rfl rfl ?_
      refine go_iload_n 13 rfl 3 rfl rfl ?_
      obtain ⟨r1, c, h⟩ := bd_inv h
      refine go_callS1 _ 14 rfl (e_P_ends c) mk_P_ends cs_P_11 rfl ⟨(Nat.le_of_ble_eq_true rfl), (Nat.le_of_ble_eq_true rfl)⟩ (Nat.le_of_ble_eq_true rfl) rfl ?_
      refine go_iload_n 15 rfl 2 rfl rfl ?_
      refine go_ishr 16 rfl ?_
      refine go_iconst 1 17 rfl (by decide) ?_
      refine go_iand 18 rfl ?_
      refine go_if_eq 41 19 rfl (by decide) (fun c => ?_) (fun c => ?_)
      · replace h := ite_t c h
        refine go_iinc 1 30 rfl 3 rfl (by decide) (Nat.le_of_ble_eq_true rfl) [(0, _), (1, _), (2, _), (3, _)] rfl ?_
        refine go_goto 11 31 rfl (by decide) ?_
        cases h
        have g9 := ih _ hc
        exact g9
      · replace h := ite_f c h
        refine go_iload_n 20 rfl 1 rfl rfl ?_
        refine go_iload_n 21 rfl 1 rfl rfl ?_
        refine go_iload_n 22 rfl 2 rfl rfl ?_
        obtain ⟨r2, c, h⟩ := bd_inv h
        refine go_callS1 _ 23 rfl (e_P_ends c) mk_P_ends cs_P_11 rfl ⟨(Nat.le_of_ble_eq_true rfl), (Nat.le_of_ble_eq_true rfl)⟩ (Nat.le_of_ble_eq_true rfl) rfl ?_
        refine go_bipush 8 24 rfl (by decide) ?_
        refine go_iload_n 25 rfl 3 rfl rfl ?_
        refine go_imul 26 rfl ?_
        refine go_ishl 27 rfl ?_
        refine go_ior 28 rfl ?_
        obtain ⟨_, c, h⟩ := bd_inv h
        cases c
        refine go_istore_n 29 rfl rfl (Nat.le_of_ble_eq_true rfl) [(0, _), (1, _), (2, _), (3, _)] rfl ?_
        refine go_iinc 1 30 rfl 3 rfl (by decide) (Nat.le_of_ble_eq_true rfl) [(0, _), (1, _), (2, _), (3, _)] rfl ?_
        refine go_goto 11 31 rfl (by decide) ?_
        cases h
        have g9 := ih _ hc
        exact g9
set_option maxRecDepth 20000 in
theorem w_P_chained_4 {l : Launch} {post : Option PV → Mm → Prop} (c0 : Int32) (M : Mm)  {r : Int32 × Int32} (kk : Go l X_P_chained post 53 [(0, vi c0), (1, vi r.1), (2, vi r.2)] [] M) : ∀ (n : Nat) (s : Int32 × Int32), lpN (b_P_chained_4) n s = some r → Go l X_P_chained post 4 [(0, vi c0), (1, vi s.1), (2, vi s.2)] [] M := by
  intro n
  induction n with
  | zero => intro s hc; exact (lpN_0 hc).elim
  | succ n ih =>
    intro s hc
    obtain ⟨q, h, hc⟩ := lpN_inv hc
    unfold b_P_chained_4 at h
    refine go_iload_n 4 rfl 2 rfl rfl ?_
    refine go_iconst 4 5 rfl (by decide) ?_
    refine go_icmp_ge 53 6 rfl (by decide) (fun c => ?_) (fun c => ?_)
    · replace h := ite_t c h
      cases h
      obtain rfl := lpq_r hc
      exact kk
    · replace h := ite_f c h
      refine go_iconst 0 7 rfl (by decide) ?_
      refine go_istore_n 8 rfl rfl (Nat.le_of_ble_eq_true rfl) [(0, _), (1, _), (2, _), (3, _)] rfl ?_
      obtain ⟨r4, c, h⟩ := bd_inv h
      refine w_P_chained_11 _ _ _ ?_ _ _ c
      refine go_iinc 1 32 rfl 2 rfl (by decide) (Nat.le_of_ble_eq_true rfl) [(0, _), (1, _), (2, _), (3, _)] rfl ?_
      refine go_goto 4 33 rfl (by decide) ?_
      cases h
      refine go_sub [0, 1, 2] rfl ?_
      have g9 := ih _ hc
      exact g9
set_option maxRecDepth 20000 in
theorem e_P_chained {l : Launch} {a0 : Int32} {M : Mm} {r : Int32}  (h : m_P_chained a0 = some r) : Ev l X_P_chained [vi a0] M (fun v M2 => v = (some (vi r)) ∧ M2 = M) := by
  refine Ev.of mk_P_chained [(0, vi a0)] (fun _ => rfl) (fun _ => (Nat.le_of_ble_eq_true rfl)) ?_
  unfold m_P_chained at h
  refine go_iload_n 0 rfl 0 rfl rfl ?_
  refine go_istore_n 1 rfl rfl (Nat.le_of_ble_eq_true rfl) [(0, _), (1, _)] rfl ?_
  refine go_iconst 0 2 rfl (by decide) ?_
  refine go_istore_n 3 rfl rfl (Nat.le_of_ble_eq_true rfl) [(0, _), (1, _), (2, _)] rfl ?_
  obtain ⟨r5, c, h⟩ := bd_inv h
  refine w_P_chained_4 _ _ ?_ _ _ c
  refine go_iload_n 34 rfl 1 rfl rfl ?_
  cases h
  exact go_ireturn 35 rfl rfl rfl ⟨rfl, rfl⟩
def X_P_comesBack : MX := (⟨"OmegaDesk$Passage", "comesBack", "(III)Z"⟩, prog_4_method_7_code, 4, some .boolean, { frames := 1, cells := 0, slots := 0, locals := 21 },
  [(0, .iconst 0, 1), (1, .istore_n 3, 2), (2, .iload_n 3, 3), (3, .iconst 4, 4), (4, .if_icmp .ge 31, 7), (7, .iload_n 1, 8), (8, .iload_n 3, 9), (9, .ishr, 10), (10, .iconst 1, 11), (11, .iand, 12), (12, .ifCond .eq 17, 15), (15, .iload_n 0, 16), (16, .iload_n 3, 17), (17, .invokestatic 11, 20), (20, .iload_n 2, 21), (21, .ishr, 22), (22, .iconst 1, 23), (23, .iand, 24), (24, .ifCond .eq 5, 27), (27, .iconst 1, 28), (28, .ireturn, 29), (29, .iinc 3 1, 32), (32, .goto (-30), 35), (35, .iconst 0, 36), (36, .ireturn, 37)])
set_option maxRecDepth 20000 in
theorem mk_P_comesBack : Mk X_P_comesBack := ⟨by unfold TBk; decide +kernel, by decide +kernel, wb_348, ⟨by decide, by decide⟩, rfl, rfl, wb_14⟩
def b_P_comesBack_2 (c0 : Int32) (c1 : Int32) (c2 : Int32) (s : Int32) : Option ((Int32) ⊕ ((Int32) ⊕ (Bool))) :=
  if (4 : Int32) ≤ s then
    some (Sum.inr (Sum.inl s))
  else
    if ((c1 >>> (s &&& 31)) &&& (1 : Int32)) = 0 then
      some (Sum.inl (s + 1))
    else
      bd (m_P_ends c0 s) fun r1 =>
      if ((r1 >>> (c2 &&& 31)) &&& (1 : Int32)) = 0 then
        some (Sum.inl (s + 1))
      else
        some (Sum.inr (Sum.inr true))
def m_P_comesBack (a0 : Int32) (a1 : Int32) (a2 : Int32) : Option (Bool) :=
  bd (lp (b_P_comesBack_2 a0 a1 a2) (0 : Int32)) fun r2 =>
  smr r2 (fun v4 => some v4) fun s3 =>
  some false
set_option maxRecDepth 20000 in
theorem w_P_comesBack_2 {l : Launch} {post : Option PV → Mm → Prop} (c0 : Int32) (c1 : Int32) (c2 : Int32) (M : Mm)  {r : (Int32) ⊕ (Bool)} (kk : ∀ s2, r = Sum.inl s2 → Go l X_P_comesBack post 35 [(0, vi c0), (1, vi c1), (2, vi c2), (3, vi s2)] [] M) (kr : ∀ v, r = Sum.inr v → post (some (vi (bI v))) M) : ∀ (n : Nat) (s : Int32), lpN (b_P_comesBack_2 c0 c1 c2) n s = some r → Go l X_P_comesBack post 2 [(0, vi c0), (1, vi c1), (2, vi c2), (3, vi s)] [] M := by
  intro n
  induction n with
  | zero => intro s hc; exact (lpN_0 hc).elim
  | succ n ih =>
    intro s hc
    obtain ⟨q, h, hc⟩ := lpN_inv hc
    unfold b_P_comesBack_2 at h
    refine go_iload_n 2 rfl 3 rfl rfl ?_
    refine go_iconst 4 3 rfl (by decide) ?_
    refine go_icmp_ge 35 4 rfl (by decide) (fun c => ?_) (fun c => ?_)
    · replace h := ite_t c h
      cases h
      obtain rfl := lpq_r hc
      exact kk _ rfl
    · replace h := ite_f c h
      refine go_iload_n 5 rfl 1 rfl rfl ?_
      refine go_iload_n 6 rfl 3 rfl rfl ?_
      refine go_ishr 7 rfl ?_
      refine go_iconst 1 8 rfl (by decide) ?_
      refine go_iand 9 rfl ?_
      refine go_if_eq 29 10 rfl (by decide) (fun c => ?_) (fun c => ?_)
      · replace h := ite_t c h
        refine go_iinc 1 21 rfl 3 rfl (by decide) (Nat.le_of_ble_eq_true rfl) [(0, _), (1, _), (2, _), (3, _)] rfl ?_
        refine go_goto 2 22 rfl (by decide) ?_
        cases h
        have g9 := ih _ hc
        exact g9
      · replace h := ite_f c h
        refine go_iload_n 11 rfl 0 rfl rfl ?_
        refine go_iload_n 12 rfl 3 rfl rfl ?_
        obtain ⟨r1, c, h⟩ := bd_inv h
        refine go_callS1 _ 13 rfl (e_P_ends c) mk_P_ends cs_P_11 rfl ⟨(Nat.le_of_ble_eq_true rfl), (Nat.le_of_ble_eq_true rfl)⟩ (Nat.le_of_ble_eq_true rfl) rfl ?_
        refine go_iload_n 14 rfl 2 rfl rfl ?_
        refine go_ishr 15 rfl ?_
        refine go_iconst 1 16 rfl (by decide) ?_
        refine go_iand 17 rfl ?_
        refine go_if_eq 29 18 rfl (by decide) (fun c => ?_) (fun c => ?_)
        · replace h := ite_t c h
          refine go_iinc 1 21 rfl 3 rfl (by decide) (Nat.le_of_ble_eq_true rfl) [(0, _), (1, _), (2, _), (3, _)] rfl ?_
          refine go_goto 2 22 rfl (by decide) ?_
          cases h
          have g9 := ih _ hc
          exact g9
        · replace h := ite_f c h
          refine go_iconst 1 19 rfl (by decide) ?_
          cases h
          obtain rfl := lpq_r hc
          exact go_ireturn 20 rfl rfl rfl (kr _ rfl)
set_option maxRecDepth 20000 in
theorem e_P_comesBack {l : Launch} {a0 : Int32} {a1 : Int32} {a2 : Int32} {M : Mm} {r : Bool}  (h : m_P_comesBack a0 a1 a2 = some r) : Ev l X_P_comesBack [vi a0, vi a1, vi a2] M (fun v M2 => v = (some (vi (bI r))) ∧ M2 = M) := by
  refine Ev.of mk_P_comesBack [(0, vi a0), (1, vi a1), (2, vi a2)] (fun _ => rfl) (fun _ => (Nat.le_of_ble_eq_true rfl)) ?_
  unfold m_P_comesBack at h
  refine go_iconst 0 0 rfl (by decide) ?_
  refine go_istore_n 1 rfl rfl (Nat.le_of_ble_eq_true rfl) [(0, _), (1, _), (2, _), (3, _)] rfl ?_
  obtain ⟨r2, c, h⟩ := bd_inv h
  refine w_P_comesBack_2 _ _ _ _ (fun s2 e => ?_) (fun v e => ?_) _ _ c
  · subst e
    replace h := smr_l h
    refine go_iconst 0 23 rfl (by decide) ?_
    cases h
    exact go_ireturn 24 rfl rfl rfl ⟨rfl, rfl⟩
  · subst e
    replace h := smr_r h
    cases h
    exact ⟨rfl, rfl⟩
def X_P_takenRepeated : MX := (⟨"OmegaDesk$Passage", "takenRepeated", "(I)I"⟩, prog_4_method_6_code, 5, some .int, { frames := 2, cells := 0, slots := 0, locals := 44 },
  [(0, .iload_n 0, 1), (1, .ldc 15, 3), (3, .iand, 4), (4, .ifCond .ne 5, 7), (7, .iconst 0, 8), (8, .ireturn, 9), (9, .iload_n 0, 10), (10, .invokestatic 16, 13), (13, .istore_n 1, 14), (14, .iconst 0, 15), (15, .istore_n 2, 16), (16, .iconst 0, 17), (17, .istore_n 3, 18), (18, .iload_n 3, 19), (19, .iconst 4, 20), (20, .if_icmp .ge 28, 23), (23, .iload_n 1, 24), (24, .iload_n 0, 25), (25, .iload_n 3, 26), (26, .invokestatic 20, 29), (29, .iload_n 3, 30), (30, .invokestatic 23, 33), (33, .ifCond .eq 9, 36), (36, .iload_n 2, 37), (37, .iconst 1, 38), (38, .iload_n 3, 39), (39, .ishl, 40), (40, .ior, 41), (41, .istore_n 2, 42), (42, .iinc 3 1, 45), (45, .goto (-27), 48), (48, .iconst 0, 49), (49, .istore_n 3, 50), (50, .iconst 0, 51), (51, .istore 4, 53), (53, .iload 4, 55), (55, .iconst 4, 56), (56, .if_icmp .ge 27, 59), (59, .iload_n 1, 60), (60, .iload 4, 62), (62, .invokestatic 11, 65), (65, .iload_n 2, 66), (66, .iand, 67), (67, .ifCond .eq 10, 70), (70, .iload_n 3, 71), (71, .iconst 1, 72), (72, .iload 4, 74), (74, .ishl, 75), (75, .ior, 76), (76, .istore_n 3, 77), (77, .iinc 4 1, 80), (80, .goto (-27), 83), (83, .iload_n 3, 84), (84, .ireturn, 85)])
set_option maxRecDepth 20000 in
theorem mk_P_takenRepeated : Mk X_P_takenRepeated := ⟨by unfold TBk; decide +kernel, by decide +kernel, wb_342, ⟨by decide, by decide⟩, rfl, rfl, wb_14⟩
theorem cs_P_16 : CS "OmegaDesk$Passage" 16 X_P_chained 1 := ⟨Or.inl wb_344, wb_334, by decide +kernel⟩
theorem cs_P_20 : CS "OmegaDesk$Passage" 20 X_P_goodEnds 2 := ⟨Or.inl wb_345, wb_331, by decide +kernel⟩
theorem cs_P_23 : CS "OmegaDesk$Passage" 23 X_P_comesBack 3 := ⟨Or.inl wb_346, wb_347, by decide +kernel⟩
def b_P_takenRepeated_18 (c0 : Int32) (c1 : Int32) (s : Int32 × Int32) : Option ((Int32 × Int32) ⊕ (Int32 × Int32)) :=
  if (4 : Int32) ≤ s.2 then
    some (Sum.inr (s.1, s.2))
  else
    bd (m_P_goodEnds c0 s.2) fun r2 =>
    bd (m_P_comesBack c1 r2 s.2) fun r3 =>
    if (bI r3) = 0 then
      some (Sum.inl (s.1, (s.2 + 1)))
    else
      some (Sum.inl ((s.1 ||| ((1 : Int32) <<< (s.2 &&& 31))), (s.2 + 1)))
def b_P_takenRepeated_53 (c1 : Int32) (c2 : Int32) (s : Int32 × Int32) : Option ((Int32 × Int32) ⊕ (Int32 × Int32)) :=
  if (4 : Int32) ≤ s.2 then
    some (Sum.inr (s.1, s.2))
  else
    bd (m_P_ends c1 s.2) fun r5 =>
    if (r5 &&& c2) = 0 then
      some (Sum.inl (s.1, (s.2 + 1)))
    else
      some (Sum.inl ((s.1 ||| ((1 : Int32) <<< (s.2 &&& 31))), (s.2 + 1)))
def m_P_takenRepeated (a0 : Int32) : Option (Int32) :=
  if (a0 &&& (-252645136 : Int32)) = 0 then
    some (0 : Int32)
  else
    bd (m_P_chained a0) fun r1 =>
    bd (lp (b_P_takenRepeated_18 a0 r1) ((0 : Int32), (0 : Int32))) fun r4 =>
    bd (lp (b_P_takenRepeated_53 r1 r4.1) ((0 : Int32), (0 : Int32))) fun r6 =>
    some r6.1
set_option maxRecDepth 20000 in
theorem w_P_takenRepeated_18 {l : Launch} {post : Option PV → Mm → Prop} (c0 : Int32) (c1 : Int32) (M : Mm)  {r : Int32 × Int32} (kk : Go l X_P_takenRepeated post 48 [(0, vi c0), (1, vi c1), (2, vi r.1), (3, vi r.2)] [] M) : ∀ (n : Nat) (s : Int32 × Int32), lpN (b_P_takenRepeated_18 c0 c1) n s = some r → Go l X_P_takenRepeated post 18 [(0, vi c0), (1, vi c1), (2, vi s.1), (3, vi s.2)] [] M := by
  intro n
  induction n with
  | zero => intro s hc; exact (lpN_0 hc).elim
  | succ n ih =>
    intro s hc
    obtain ⟨q, h, hc⟩ := lpN_inv hc
    unfold b_P_takenRepeated_18 at h
    refine go_iload_n 13 rfl 3 rfl rfl ?_
    refine go_iconst 4 14 rfl (by decide) ?_
    refine go_icmp_ge 48 15 rfl (by decide) (fun c => ?_) (fun c => ?_)
    · replace h := ite_t c h
      cases h
      obtain rfl := lpq_r hc
      exact kk
    · replace h := ite_f c h
      refine go_iload_n 16 rfl 1 rfl rfl ?_
      refine go_iload_n 17 rfl 0 rfl rfl ?_
      refine go_iload_n 18 rfl 3 rfl rfl ?_
      obtain ⟨r2, c, h⟩ := bd_inv h
      refine go_callS1 _ 19 rfl (e_P_goodEnds c) mk_P_goodEnds cs_P_20 rfl ⟨(Nat.le_of_ble_eq_true rfl), (Nat.le_of_ble_eq_true rfl)⟩ (Nat.le_of_ble_eq_true rfl) rfl ?_
      refine go_iload_n 20 rfl 3 rfl rfl ?_
      obtain ⟨r3, c, h⟩ := bd_inv h
      refine go_callS1 _ 21 rfl (e_P_comesBack c) mk_P_comesBack cs_P_23 rfl ⟨(Nat.le_of_ble_eq_true rfl), (Nat.le_of_ble_eq_true rfl)⟩ (Nat.le_of_ble_eq_true rfl) rfl ?_
      refine go_if_eq 42 22 rfl (by decide) (fun c => ?_) (fun c => ?_)
      · replace h := ite_t c h
        refine go_iinc 1 29 rfl 3 rfl (by decide) (Nat.le_of_ble_eq_true rfl) [(0, _), (1, _), (2, _), (3, _)] rfl ?_
        refine go_goto 18 30 rfl (by decide) ?_
        cases h
        have g9 := ih _ hc
        exact g9
      · replace h := ite_f c h
        refine go_iload_n 23 rfl 2 rfl rfl ?_
        refine go_iconst 1 24 rfl (by decide) ?_
        refine go_iload_n 25 rfl 3 rfl rfl ?_
        refine go_ishl 26 rfl ?_
        refine go_ior 27 rfl ?_
        refine go_istore_n 28 rfl rfl (Nat.le_of_ble_eq_true rfl) [(0, _), (1, _), (2, _), (3, _)] rfl ?_
        refine go_iinc 1 29 rfl 3 rfl (by decide) (Nat.le_of_ble_eq_true rfl) [(0, _), (1, _), (2, _), (3, _)] rfl ?_
        refine go_goto 18 30 rfl (by decide) ?_
        cases h
        have g9 := ih _ hc
        exact g9
set_option maxRecDepth 20000 in
theorem w_P_takenRepeated_53 {l : Launch} {post : Option PV → Mm → Prop} (c0 : Int32) (c1 : Int32) (c2 : Int32) (M : Mm)  {r : Int32 × Int32} (kk : Go l X_P_takenRepeated post 83 [(0, vi c0), (1, vi c1), (2, vi c2), (3, vi r.1), (4, vi r.2)] [] M) : ∀ (n : Nat) (s : Int32 × Int32), lpN (b_P_takenRepeated_53 c1 c2) n s = some r → Go l X_P_takenRepeated post 53 [(0, vi c0), (1, vi c1), (2, vi c2), (3, vi s.1), (4, vi s.2)] [] M := by
  intro n
  induction n with
  | zero => intro s hc; exact (lpN_0 hc).elim
  | succ n ih =>
    intro s hc
    obtain ⟨q, h, hc⟩ := lpN_inv hc
    unfold b_P_takenRepeated_53 at h
    refine go_iload 35 rfl 4 rfl ?_
    refine go_iconst 4 36 rfl (by decide) ?_
    refine go_icmp_ge 83 37 rfl (by decide) (fun c => ?_) (fun c => ?_)
    · replace h := ite_t c h
      cases h
      obtain rfl := lpq_r hc
      exact kk
    · replace h := ite_f c h
      refine go_iload_n 38 rfl 1 rfl rfl ?_
      refine go_iload 39 rfl 4 rfl ?_
      obtain ⟨r5, c, h⟩ := bd_inv h
      refine go_callS1 _ 40 rfl (e_P_ends c) mk_P_ends cs_P_11 rfl ⟨(Nat.le_of_ble_eq_true rfl), (Nat.le_of_ble_eq_true rfl)⟩ (Nat.le_of_ble_eq_true rfl) rfl ?_
      refine go_iload_n 41 rfl 2 rfl rfl ?_
      refine go_iand 42 rfl ?_
      refine go_if_eq 77 43 rfl (by decide) (fun c => ?_) (fun c => ?_)
      · replace h := ite_t c h
        refine go_iinc 1 50 rfl 4 rfl (by decide) (Nat.le_of_ble_eq_true rfl) [(0, _), (1, _), (2, _), (3, _), (4, _)] rfl ?_
        refine go_goto 53 51 rfl (by decide) ?_
        cases h
        have g9 := ih _ hc
        exact g9
      · replace h := ite_f c h
        refine go_iload_n 44 rfl 3 rfl rfl ?_
        refine go_iconst 1 45 rfl (by decide) ?_
        refine go_iload 46 rfl 4 rfl ?_
        refine go_ishl 47 rfl ?_
        refine go_ior 48 rfl ?_
        refine go_istore_n 49 rfl rfl (Nat.le_of_ble_eq_true rfl) [(0, _), (1, _), (2, _), (3, _), (4, _)] rfl ?_
        refine go_iinc 1 50 rfl 4 rfl (by decide) (Nat.le_of_ble_eq_true rfl) [(0, _), (1, _), (2, _), (3, _), (4, _)] rfl ?_
        refine go_goto 53 51 rfl (by decide) ?_
        cases h
        have g9 := ih _ hc
        exact g9
set_option maxRecDepth 20000 in
theorem e_P_takenRepeated {l : Launch} {a0 : Int32} {M : Mm} {r : Int32}  (h : m_P_takenRepeated a0 = some r) : Ev l X_P_takenRepeated [vi a0] M (fun v M2 => v = (some (vi r)) ∧ M2 = M) := by
  refine Ev.of mk_P_takenRepeated [(0, vi a0)] (fun _ => rfl) (fun _ => (Nat.le_of_ble_eq_true rfl)) ?_
  unfold m_P_takenRepeated at h
  refine go_iload_n 0 rfl 0 rfl rfl ?_
  refine go_ldc (-252645136) 1 rfl wb_343 ?_
  refine go_iand 2 rfl ?_
  refine go_if_ne 9 3 rfl (by decide) (fun c => ?_) (fun c => ?_)
  · replace h := ite_f c h
    refine go_iload_n 6 rfl 0 rfl rfl ?_
    obtain ⟨r1, c, h⟩ := bd_inv h
    refine go_callS1 _ 7 rfl (e_P_chained c) mk_P_chained cs_P_16 rfl ⟨(Nat.le_of_ble_eq_true rfl), (Nat.le_of_ble_eq_true rfl)⟩ (Nat.le_of_ble_eq_true rfl) rfl ?_
    refine go_istore_n 8 rfl rfl (Nat.le_of_ble_eq_true rfl) [(0, _), (1, _)] rfl ?_
    refine go_iconst 0 9 rfl (by decide) ?_
    refine go_istore_n 10 rfl rfl (Nat.le_of_ble_eq_true rfl) [(0, _), (1, _), (2, _)] rfl ?_
    refine go_iconst 0 11 rfl (by decide) ?_
    refine go_istore_n 12 rfl rfl (Nat.le_of_ble_eq_true rfl) [(0, _), (1, _), (2, _), (3, _)] rfl ?_
    obtain ⟨r4, c, h⟩ := bd_inv h
    refine w_P_takenRepeated_18 _ _ _ ?_ _ _ c
    refine go_iconst 0 31 rfl (by decide) ?_
    refine go_istore_n 32 rfl rfl (Nat.le_of_ble_eq_true rfl) [(0, _), (1, _), (2, _), (3, _)] rfl ?_
    refine go_iconst 0 33 rfl (by decide) ?_
    refine go_istore 34 rfl (Nat.le_of_ble_eq_true rfl) [(0, _), (1, _), (2, _), (3, _), (4, _)] rfl ?_
    obtain ⟨r6, c, h⟩ := bd_inv h
    refine w_P_takenRepeated_53 _ _ _ _ ?_ _ _ c
    refine go_iload_n 52 rfl 3 rfl rfl ?_
    cases h
    exact go_ireturn 53 rfl rfl rfl ⟨rfl, rfl⟩
  · replace h := ite_t c h
    refine go_iconst 0 4 rfl (by decide) ?_
    cases h
    exact go_ireturn 5 rfl rfl rfl ⟨rfl, rfl⟩
