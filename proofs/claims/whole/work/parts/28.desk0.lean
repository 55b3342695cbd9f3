def X_D_isWord : MX := (⟨"OmegaDesk", "isWord", "(II)Z"⟩, prog_1_method_16_code, 2, some .boolean, { frames := 0, cells := 0, slots := 0, locals := 0 },
  [(0, .iload_n 1, 1), (1, .ifCond .lt 14, 4), (4, .iload_n 1, 5), (5, .iconst 1, 6), (6, .iload_n 0, 7), (7, .ishl, 8), (8, .if_icmp .ge 7, 11), (11, .iconst 1, 12), (12, .goto 4, 15), (15, .iconst 0, 16), (16, .ireturn, 17)])
set_option maxRecDepth 20000 in
theorem mk_D_isWord : Mk X_D_isWord := ⟨by unfold TBk; decide +kernel, by decide +kernel, wb_383, ⟨by decide, by decide⟩, rfl, rfl, wb_1⟩
def m_D_isWord (a0 : Int32) (a1 : Int32) : Option (Bool) :=
  if a1 < 0 then
    some false
  else
    if ((1 : Int32) <<< (a0 &&& 31)) ≤ a1 then
      some false
    else
      some true
set_option maxRecDepth 20000 in
theorem e_D_isWord {l : Launch} {a0 : Int32} {a1 : Int32} {M : Mm} {r : Bool}  (h : m_D_isWord a0 a1 = some r) : Ev l X_D_isWord [vi a0, vi a1] M (fun v M2 => v = (some (vi (bI r))) ∧ M2 = M) := by
  refine Ev.of mk_D_isWord [(0, vi a0), (1, vi a1)] (fun _ => rfl) (fun _ => (Nat.le_of_ble_eq_true rfl)) ?_
  unfold m_D_isWord at h
  refine go_iload_n 0 rfl 1 rfl rfl ?_
  refine go_if_lt 15 1 rfl (by decide) (fun c => ?_) (fun c => ?_)
  · replace h := ite_t c h
    refine go_iconst 0 9 rfl (by decide) ?_
    cases h
    exact go_ireturn 10 rfl rfl rfl ⟨rfl, rfl⟩
  · replace h := ite_f c h
    refine go_iload_n 2 rfl 1 rfl rfl ?_
    refine go_iconst 1 3 rfl (by decide) ?_
    refine go_iload_n 4 rfl 0 rfl rfl ?_
    refine go_ishl 5 rfl ?_
    refine go_icmp_ge 15 6 rfl (by decide) (fun c => ?_) (fun c => ?_)
    · replace h := ite_t c h
      refine go_iconst 0 9 rfl (by decide) ?_
      cases h
      exact go_ireturn 10 rfl rfl rfl ⟨rfl, rfl⟩
    · replace h := ite_f c h
      refine go_iconst 1 7 rfl (by decide) ?_
      refine go_goto 16 8 rfl (by decide) ?_
      cases h
      exact go_ireturn 10 rfl rfl rfl ⟨rfl, rfl⟩
