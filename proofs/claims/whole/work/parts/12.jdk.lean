def X_I_bitCount : MX := (⟨"java/lang/Integer", "bitCount", "(I)I"⟩, prog_12_method_49_code, 1, some .int, { frames := 0, cells := 0, slots := 0, locals := 0 },
  [(0, .iload_n 0, 1), (1, .iload_n 0, 2), (2, .iconst 1, 3), (3, .iushr, 4), (4, .ldc_w 265, 7), (7, .iand, 8), (8, .isub, 9), (9, .istore_n 0, 10), (10, .iload_n 0, 11), (11, .ldc_w 266, 14), (14, .iand, 15), (15, .iload_n 0, 16), (16, .iconst 2, 17), (17, .iushr, 18), (18, .ldc_w 266, 21), (21, .iand, 22), (22, .iadd, 23), (23, .istore_n 0, 24), (24, .iload_n 0, 25), (25, .iload_n 0, 26), (26, .iconst 4, 27), (27, .iushr, 28), (28, .iadd, 29), (29, .ldc_w 267, 32), (32, .iand, 33), (33, .istore_n 0, 34), (34, .iload_n 0, 35), (35, .iload_n 0, 36), (36, .bipush 8, 38), (38, .iushr, 39), (39, .iadd, 40), (40, .istore_n 0, 41), (41, .iload_n 0, 42), (42, .iload_n 0, 43), (43, .bipush 16, 45), (45, .iushr, 46), (46, .iadd, 47), (47, .istore_n 0, 48), (48, .iload_n 0, 49), (49, .bipush 63, 51), (51, .iand, 52), (52, .ireturn, 53)])
set_option maxRecDepth 20000 in
theorem mk_I_bitCount : Mk X_I_bitCount := ⟨by unfold TBk; decide +kernel, by decide +kernel, wb_359, ⟨by decide, by decide⟩, rfl, rfl, wb_15⟩
def m_I_bitCount (a0 : Int32) : Option (Int32) :=
  bd (some (a0 - (((a0.toUInt32 >>> ((1 : Int32).toUInt32 &&& Int32.toUInt32 31)).toInt32) &&& (1431655765 : Int32)))) fun x1 =>
  bd (some ((x1 &&& (858993459 : Int32)) + (((x1.toUInt32 >>> ((2 : Int32).toUInt32 &&& Int32.toUInt32 31)).toInt32) &&& (858993459 : Int32)))) fun x2 =>
  bd (some ((x2 + ((x2.toUInt32 >>> ((4 : Int32).toUInt32 &&& Int32.toUInt32 31)).toInt32)) &&& (252645135 : Int32))) fun x3 =>
  bd (some (x3 + ((x3.toUInt32 >>> ((8 : Int32).toUInt32 &&& Int32.toUInt32 31)).toInt32))) fun x4 =>
  bd (some (x4 + ((x4.toUInt32 >>> ((16 : Int32).toUInt32 &&& Int32.toUInt32 31)).toInt32))) fun x5 =>
  some (x5 &&& (63 : Int32))
set_option maxRecDepth 20000 in
theorem e_I_bitCount {l : Launch} {a0 : Int32} {M : Mm} {r : Int32}  (h : m_I_bitCount a0 = some r) : Ev l X_I_bitCount [vi a0] M (fun v M2 => v = (some (vi r)) ∧ M2 = M) := by
  refine Ev.of mk_I_bitCount [(0, vi a0)] (fun _ => rfl) (fun _ => (Nat.le_of_ble_eq_true rfl)) ?_
  unfold m_I_bitCount at h
  refine go_iload_n 0 rfl 0 rfl rfl ?_
  refine go_iload_n 1 rfl 0 rfl rfl ?_
  refine go_iconst 1 2 rfl (by decide) ?_
  refine go_iushr 3 rfl ?_
  refine go_ldcw 1431655765 4 rfl wb_360 ?_
  refine go_iand 5 rfl ?_
  refine go_isub 6 rfl ?_
  obtain ⟨_, c, h⟩ := bd_inv h
  cases c
  refine go_istore_n 7 rfl rfl (Nat.le_of_ble_eq_true rfl) [(0, _)] rfl ?_
  refine go_iload_n 8 rfl 0 rfl rfl ?_
  refine go_ldcw 858993459 9 rfl wb_361 ?_
  refine go_iand 10 rfl ?_
  refine go_iload_n 11 rfl 0 rfl rfl ?_
  refine go_iconst 2 12 rfl (by decide) ?_
  refine go_iushr 13 rfl ?_
  refine go_ldcw 858993459 14 rfl wb_361 ?_
  refine go_iand 15 rfl ?_
  refine go_iadd 16 rfl ?_
  obtain ⟨_, c, h⟩ := bd_inv h
  cases c
  refine go_istore_n 17 rfl rfl (Nat.le_of_ble_eq_true rfl) [(0, _)] rfl ?_
  refine go_iload_n 18 rfl 0 rfl rfl ?_
  refine go_iload_n 19 rfl 0 rfl rfl ?_
  refine go_iconst 4 20 rfl (by decide) ?_
  refine go_iushr 21 rfl ?_
  refine go_iadd 22 rfl ?_
  refine go_ldcw 252645135 23 rfl wb_362 ?_
  refine go_iand 24 rfl ?_
  obtain ⟨_, c, h⟩ := bd_inv h
  cases c
  refine go_istore_n 25 rfl rfl (Nat.le_of_ble_eq_true rfl) [(0, _)] rfl ?_
  refine go_iload_n 26 rfl 0 rfl rfl ?_
  refine go_iload_n 27 rfl 0 rfl rfl ?_
  refine go_bipush 8 28 rfl (by decide) ?_
  refine go_iushr 29 rfl ?_
  refine go_iadd 30 rfl ?_
  obtain ⟨_, c, h⟩ := bd_inv h
  cases c
  refine go_istore_n 31 rfl rfl (Nat.le_of_ble_eq_true rfl) [(0, _)] rfl ?_
  refine go_iload_n 32 rfl 0 rfl rfl ?_
  refine go_iload_n 33 rfl 0 rfl rfl ?_
  refine go_bipush 16 34 rfl (by decide) ?_
  refine go_iushr 35 rfl ?_
  refine go_iadd 36 rfl ?_
  obtain ⟨_, c, h⟩ := bd_inv h
  cases c
  refine go_istore_n 37 rfl rfl (Nat.le_of_ble_eq_true rfl) [(0, _)] rfl ?_
  refine go_iload_n 38 rfl 0 rfl rfl ?_
  refine go_bipush 63 39 rfl (by decide) ?_
  refine go_iand 40 rfl ?_
  cases h
  exact go_ireturn 41 rfl rfl rfl ⟨rfl, rfl⟩
def X_Y_fill : MX := (⟨"java/util/Arrays", "fill", "([II)V"⟩, prog_17_method_103_code, 4, none, { frames := 0, cells := 0, slots := 0, locals := 0 },
  [(0, .iconst 0, 1), (1, .istore_n 2, 2), (2, .aload_n 0, 3), (3, .arraylength, 4), (4, .istore_n 3, 5), (5, .iload_n 2, 6), (6, .iload_n 3, 7), (7, .if_icmp .ge 13, 10), (10, .aload_n 0, 11), (11, .iload_n 2, 12), (12, .iload_n 1, 13), (13, .iastore, 14), (14, .iinc 2 1, 17), (17, .goto (-12), 20), (20, .return_, 21)])
set_option maxRecDepth 20000 in
theorem mk_Y_fill : Mk X_Y_fill := ⟨by unfold TBk; decide +kernel, by decide +kernel, wb_277, ⟨by decide, by decide⟩, rfl, rfl, wb_12⟩
def b_Y_fill_5 (c0 : Nat) (c1 : Int32) (c3 : Int32) (s : Int32 × Mm) : Option ((Int32 × Mm) ⊕ (Int32 × Mm)) :=
  if c3 ≤ s.1 then
    some (Sum.inr (s.1, s.2))
  else
    ck (inb s.1 (lenI c0)) <|
    bd (some (uI s.2 (1, c0) s.1.toNatClampNeg c1)) fun M1 =>
    some (Sum.inl ((s.1 + 1), M1))
def m_Y_fill (a0 : Nat) (a1 : Int32) (M : Mm) : Option (Mm) :=
  bd (lp (b_Y_fill_5 a0 a1 (Int32.ofNat (lenI a0))) ((0 : Int32), M)) fun r2 =>
  some r2.2
set_option maxRecDepth 20000 in
theorem w_Y_fill_5 {l : Launch} {post : Option PV → Mm → Prop} (c0 : Nat) (c1 : Int32) (c3 : Int32) (h0 : c0 < 23) {r : Int32 × Mm} (kk : Go l X_Y_fill post 20 [(0, vr 1 c0), (1, vi c1), (2, vi r.1), (3, vi c3)] [] r.2) : ∀ (n : Nat) (s : Int32 × Mm), lpN (b_Y_fill_5 c0 c1 c3) n s = some r → Go l X_Y_fill post 5 [(0, vr 1 c0), (1, vi c1), (2, vi s.1), (3, vi c3)] [] s.2 := by
  intro n
  induction n with
  | zero => intro s hc; exact (lpN_0 hc).elim
  | succ n ih =>
    intro s hc
    obtain ⟨q, h, hc⟩ := lpN_inv hc
    unfold b_Y_fill_5 at h
    refine go_iload_n 5 rfl 2 rfl rfl ?_
    refine go_iload_n 6 rfl 3 rfl rfl ?_
    refine go_icmp_ge 20 7 rfl (by decide) (fun c => ?_) (fun c => ?_)
    · replace h := ite_t c h
      cases h
      obtain rfl := lpq_r hc
      exact kk
    · replace h := ite_f c h
      refine go_aload_n 8 rfl 0 rfl rfl ?_
      refine go_iload_n 9 rfl 2 rfl rfl ?_
      refine go_iload_n 10 rfl 1 rfl rfl ?_
      obtain ⟨c, h⟩ := ck_inv h
      refine go_iastore 11 rfl (by first | decide | exact ok0 (by omega) | exact ok1 (by omega) | exact ok2 (by omega) | exact ok7 (by omega)) (inb_vp c) ?_
      obtain ⟨_, c, h⟩ := bd_inv h
      cases c
      refine go_iinc 1 12 rfl 2 rfl (by decide) (Nat.le_of_ble_eq_true rfl) [(0, _), (1, _), (2, _), (3, _)] rfl ?_
      refine go_goto 5 13 rfl (by decide) ?_
      cases h
      have g9 := ih _ hc
      exact g9
set_option maxRecDepth 20000 in
theorem e_Y_fill {l : Launch} {a0 : Nat} {a1 : Int32} {M : Mm} {r : Mm} (h0 : a0 < 23) (h : m_Y_fill a0 a1 M = some r) : Ev l X_Y_fill [vr 1 a0, vi a1] M (fun v M2 => v = none ∧ M2 = r) := by
  refine Ev.of mk_Y_fill [(0, vr 1 a0), (1, vi a1)] (fun _ => rfl) (fun _ => (Nat.le_of_ble_eq_true rfl)) ?_
  unfold m_Y_fill at h
  refine go_iconst 0 0 rfl (by decide) ?_
  refine go_istore_n 1 rfl rfl (Nat.le_of_ble_eq_true rfl) [(0, _), (1, _), (2, _)] rfl ?_
  refine go_aload_n 2 rfl 0 rfl rfl ?_
  refine go_arraylength _ 3 rfl (by first | decide | exact ok0 (by omega) | exact ok1 (by omega) | exact ok2 (by omega) | exact ok7 (by omega)) rfl ?_
  refine go_istore_n 4 rfl rfl (Nat.le_of_ble_eq_true rfl) [(0, _), (1, _), (2, _), (3, _)] rfl ?_
  obtain ⟨r2, c, h⟩ := bd_inv h
  refine w_Y_fill_5 _ _ _ (by omega) ?_ _ _ c
  cases h
  exact go_return 14 rfl rfl ⟨rfl, rfl⟩
