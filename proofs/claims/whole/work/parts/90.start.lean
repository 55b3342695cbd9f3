def adl (b q1 q2 q3 : Nat) (u v : Nat → Nat) : AD := fun c => match c with
  | (0, 0) => u 1
  | (0, 1) => u 3
  | (0, 2) => u 5
  | (0, 3) => u 7
  | (0, 4) => u 9
  | (0, 5) => u 11
  | (0, 6) => u 13
  | (1, 0) => u 2
  | (1, 1) => u 4
  | (1, 2) => u 6
  | (1, 3) => u 8
  | (1, 4) => u 10
  | (1, 5) => u 12
  | (1, 6) => u 14
  | (1, 7) => u 16
  | (1, 8) => u 17
  | (1, 9) => u 18
  | (1, 10) => u 19
  | (1, 11) => u 20
  | (1, 12) => u 23
  | (1, 13) => u 24
  | (1, 14) => u 26
  | (1, 15) => u 27
  | (1, 16) => v 0
  | (1, 17) => v 1
  | (1, 18) => v 2
  | (1, 19) => v 3
  | (1, 20) => v 7
  | (1, 21) => v 8
  | (1, 22) => v 9
  | (2, 0) => v 4
  | (2, 1) => v 5
  | (2, 2) => v 6
  | (2, 3) => q3
  | (3, 0) => q1
  | (4, 0) => u 0
  | (5, 0) => u 15
  | (6, 0) => u 21
  | (7, 0) => u 22
  | (7, 1) => u 25
  | (8, 0) => q2
  | _ => b
set_option maxRecDepth 20000 in
theorem nw_tbl : ∀ w ∈ NW, w ∈ lw_tbl := by
  intro w hw
  simp only [NW, List.mem_cons, List.not_mem_nil, or_false] at hw
  rcases hw with rfl | rfl | rfl | rfl | rfl | rfl | rfl | rfl | rfl | rfl | rfl | rfl | rfl | rfl | rfl | rfl | rfl | rfl | rfl | rfl | rfl | rfl
  · exact List.mem_append_right _ (List.mem_of_getElem? (i := 28) rfl)
  · exact List.mem_append_right _ (List.mem_of_getElem? (i := 33) rfl)
  · exact List.mem_append_right _ (List.mem_of_getElem? (i := 34) rfl)
  · exact List.mem_append_right _ (List.mem_of_getElem? (i := 35) rfl)
  · exact List.mem_append_right _ (List.mem_of_getElem? (i := 37) rfl)
  · exact List.mem_append_right _ (List.mem_of_getElem? (i := 49) rfl)
  · exact List.mem_append_right _ (List.mem_of_getElem? (i := 77) rfl)
  · exact List.mem_append_right _ (List.mem_of_getElem? (i := 83) rfl)
  · exact List.mem_append_right _ (List.mem_of_getElem? (i := 97) rfl)
  · exact List.mem_append_right _ (List.mem_of_getElem? (i := 99) rfl)
  · exact List.mem_append_right _ (List.mem_of_getElem? (i := 101) rfl)
  · exact List.mem_append_right _ (List.mem_of_getElem? (i := 103) rfl)
  · exact List.mem_append_right _ (List.mem_of_getElem? (i := 105) rfl)
  · exact List.mem_append_right _ (List.mem_of_getElem? (i := 149) rfl)
  · exact List.mem_append_right _ (List.mem_of_getElem? (i := 217) rfl)
  · exact List.mem_append_right _ (List.mem_of_getElem? (i := 483) rfl)
  · exact List.mem_append_right _ (List.mem_of_getElem? (i := 150) rfl)
  · exact List.mem_append_right _ (List.mem_of_getElem? (i := 151) rfl)
  · exact List.mem_append_right _ (List.mem_of_getElem? (i := 152) rfl)
  · exact List.mem_append_right _ (List.mem_of_getElem? (i := 153) rfl)
  · exact List.mem_append_right _ (List.mem_of_getElem? (i := 154) rfl)
  · exact List.mem_append_right _ (List.mem_of_getElem? (i := 155) rfl)
theorem nw_on (w : Cond) (hw : w ∈ NW) : w.onTables = true := by
  have hq := NW_nest w hw
  cases w <;> first | rfl | (exact absurd hq (by simp [nestW]))
set_option maxRecDepth 20000 in
theorem str_tbl : ∀ q ∈ STR, Cond.stringRef q.1 q.2.1 q.2.2 ∈ lw_tbl := by
  intro w hw
  simp only [STR, List.mem_cons, List.not_mem_nil, or_false] at hw
  rcases hw with rfl | rfl | rfl | rfl | rfl | rfl | rfl | rfl | rfl | rfl | rfl
  · exact List.mem_append_right _ (List.mem_of_getElem? (i := 188) rfl)
  · exact List.mem_append_right _ (List.mem_of_getElem? (i := 224) rfl)
  · exact List.mem_append_right _ (List.mem_of_getElem? (i := 250) rfl)
  · exact List.mem_append_right _ (List.mem_of_getElem? (i := 251) rfl)
  · exact List.mem_append_right _ (List.mem_of_getElem? (i := 285) rfl)
  · exact List.mem_append_right _ (List.mem_of_getElem? (i := 286) rfl)
  · exact List.mem_append_right _ (List.mem_of_getElem? (i := 380) rfl)
  · exact List.mem_append_right _ (List.mem_of_getElem? (i := 384) rfl)
  · exact List.mem_append_right _ (List.mem_of_getElem? (i := 398) rfl)
  · exact List.mem_append_right _ (List.mem_of_getElem? (i := 480) rfl)
  · exact List.mem_append_right _ (List.mem_of_getElem? (i := 490) rfl)
theorem str_own : ∀ q ∈ STR, q.1 = "OmegaDesk" := by decide
theorem arrV_eq {cA : ClassId} {N : Nat} {f g : Nat → Value} (h : ∀ j, j < N → f j = g j) : arrV cA N f = arrV cA N g := by
  unfold arrV
  have e : (fun j : Fin N => f j.val) = (fun j : Fin N => g j.val) := funext fun j => h j.val j.isLt
  rw [e]
theorem va_P_set {D : va_G} {cl : List vw_C} {ws : va_W} {H : Heap} {k0 a : Nat} {e0 e1 : va_E} (h : va_P D cl ws H) (hp : ws[k0]? = some (a, e0)) (he : va_at D cl (a, e1) H) : va_P D cl (ws.set k0 (a, e1)) H := by
  have hl := (List.getElem?_eq_some_iff.mp hp).1
  intro k q hk
  by_cases hkp : k = k0
  · subst hkp
    rw [List.getElem?_set_self hl] at hk
    cases hk
    exact he
  · rw [List.getElem?_set_ne (Ne.symm hkp)] at hk
    exact h k q hk
def dcl (a0 a1 a2 a3 a4 a5 : ClassId) : Nat → ClassId := fun k => match k with
  | 0 => a0
  | 1 => a1
  | 2 => a2
  | 3 => a3
  | 4 => a4
  | _ => a5
def dcs (a0 a1 a2 a3 a4 a5 : Nat → Nat) : Nat → Nat → Nat := fun k => match k with
  | 0 => a0
  | 1 => a1
  | 2 => a2
  | 3 => a3
  | 4 => a4
  | _ => a5
theorem dcl_K {s : State} {a0 a1 a2 a3 a4 a5 : ClassId} {i0 i1 i2 i3 i4 i5 : Nat → Nat} (h0 : u_Kn s R_A F_A 3 a0 i0) (h1 : u_Kn s R_D F_D 4 a1 i1) (h2 : u_Kn s R_R F_R 7 a2 i2) (h3 : u_Kn s R_F F_F 7 a3 i3) (h4 : u_Kn s R_T F_T 2 a4 i4) (h5 : u_Kn s R_M F_M 12 a5 i5) : ∀ (c : Nat) (q : vw_C), classes[c]? = some q → u_Kn s q.1 q.2.1 q.2.2 (dcl a0 a1 a2 a3 a4 a5 c) (dcs i0 i1 i2 i3 i4 i5 c) := by
  intro c q hc
  have hl : c < 6 := (List.getElem?_eq_some_iff.mp hc).1
  rcases (show c = 0 ∨ c = 1 ∨ c = 2 ∨ c = 3 ∨ c = 4 ∨ c = 5 by omega) with rfl | rfl | rfl | rfl | rfl | rfl
  · cases hc; exact h0
  · cases hc; exact h1
  · cases hc; exact h2
  · cases hc; exact h3
  · cases hc; exact h4
  · cases hc; exact h5
theorem arr_K {s : State} {args : Array Value} {ty : FieldType} (hty : ty = .int ∨ ty = .long) (h : (Cond.arrayClass ty).before args s = true) : ∃ cA : ClassId, ArrOfT s cA ty ∧ va_RA s cA ty := by
  obtain ⟨c, k, comp, h1, h2, h3⟩ := Cond.arrayClass_spec h
  refine ⟨c, fun n z => ⟨fun k h => (by cases h), k, h2, comp, h3⟩, ?_⟩
  rcases hty with rfl | rfl <;> exact h1
theorem arrO_K {s : State} {args : Array Value} {n : String} (h : (Cond.arrayOver (.object n)).before args s = true) : ∃ cA : ClassId, ArrOfT s cA (.object n) ∧ va_RA s cA (.object n) := by
  obtain ⟨comp, c, k, h1, -, h3, h4, h5⟩ := Cond.arrayOver_spec h
  exact ⟨c, fun m z => ⟨fun k h => (by cases h), k, h3, comp, h4⟩, k, comp, h3, h4, h1, h5⟩
set_option maxHeartbeats 8000000 in
set_option maxRecDepth 100000 in
theorem whole_start {p : Program} {e : Env} {s : State} {m : MethodId} {below : List Frame} {meth : Method} {c : Code} (l : Launch) (hl0 : l.stackTraces = false) {b L : Nat} {xs : Nat → Int32} (hL : L ≤ 3072) (C0 : lw_At p s m meth c b L xs) : W p l e room_1 s m #[Value.ref b] below meth c s.heap [] 0 0 (lw_Z below #[Value.ref b] s) (entryFrame m ([Value.ref b] : List Value).toArray 7) := by
  obtain ⟨hx, hb, hr, hml, hown, hts0, hX, hbl, hlk, hgv⟩ := C0
  have hts : ∀ w ∈ WB, w.before #[Value.ref b] s = true := fun w hw => hts0 w (List.mem_filter.mp hw).1
  have hN : ∀ w ∈ NW, va_Nw w s := fun w hw => va_Nw.of (nw_on w hw) (hts0 w (nw_tbl w hw))
  have hfl := flat_of_before _ hgv
  obtain ⟨a0, i0, k0⟩ := u_known hts uw_A (hts _ wb_27)
  obtain ⟨a1, i1, k1⟩ := u_known hts uw_D (hts _ wb_18)
  obtain ⟨a2, i2, k2⟩ := u_known hts uw_R (hts _ wb_48)
  obtain ⟨a3, i3, k3⟩ := u_known hts uw_F (hts _ wb_76)
  obtain ⟨a4, i4, k4⟩ := u_known hts uw_T (hts _ wb_82)
  obtain ⟨a5, i5, k5⟩ := u_known hts uw_M (hts _ wb_520)
  obtain ⟨cI, hI1, hI2⟩ := arr_K (Or.inl rfl) (hts _ wk_ai)
  obtain ⟨cL, hL1, hL2⟩ := arr_K (Or.inr rfl) (hts _ wk_al)
  have hov : (Cond.arrayOver (.object "OmegaDesk$Automaton")).before #[Value.ref b] s = true := hts0 _ (List.mem_append_right _ (List.mem_of_getElem? (i := 26) rfl))
  obtain ⟨cR, hR1, hR2⟩ := arrO_K hov
  obtain ⟨D, hDe⟩ : ∃ D : va_G, D = (dcl a0 a1 a2 a3 a4 a5, dcs i0 i1 i2 i3 i4 i5) := ⟨_, rfl⟩
  obtain ⟨z, hze⟩ : ∃ z : Zc, z = (cI, cL, cR) := ⟨_, rfl⟩
  have hK : va_K D classes (tz z) s := by
    subst hDe hze
    refine ⟨dcl_K k0 k1 k2 k3 k4 k5, fun k q hk => ?_⟩
    have hl : k < 3 := (List.getElem?_eq_some_iff.mp hk).1
    rcases (show k = 0 ∨ k = 1 ∨ k = 2 by omega) with rfl | rfl | rfl
    · cases hk; exact ⟨hI1, hI2⟩
    · cases hk; exact ⟨hL1, hL2⟩
    · cases hk; exact ⟨hR1, hR2⟩
  have hO : va_AO "OmegaDesk$Automaton" s := va_AO.of hov
  obtain ⟨A, hAe⟩ : ∃ A : Nat → Prop, A = (fun q => s.heap.size ≤ q) := ⟨_, rfl⟩
  have hA : ∀ q, s.heap.size ≤ q → A q := fun q h => by rw [hAe]; exact h
  have hA2 : ∀ q, A q → s.heap.size ≤ q := fun q h => by rw [hAe] at h; exact h
  have hA3 : ∀ a : Nat, a < s.heap.size → ¬ A a := fun a h1 h2 => by have := hA2 a h2; omega
  have hfix : CallFix p m c code 7 s #[Value.ref b] WB "OmegaDeskLaw" := ⟨hx, hb, hml, hown, hts⟩
  have hE : Exw l A s := by
    refine ⟨hl0, vx_Zqof (hts0 _ (List.mem_append_right _ (List.mem_of_getElem? (i := 174) rfl))) (hts _ wb_7) (hfl _ (by decide +kernel)) hA3, vx_Zqof (hts0 _ (List.mem_append_right _ (List.mem_of_getElem? (i := 176) rfl))) (hts _ wb_7) (hfl _ (by decide +kernel)) hA3, fun q hq => ?_, va_Nc.of (hfl _ (by decide +kernel)), va_Nc.of (hfl _ (by decide +kernel))⟩
    have h1 := hts0 _ (str_tbl q hq)
    have h2 := str_own q hq
    have hc : s.vm.findClass q.1 = some a1 := by rw [h2]; exact k1.2.1
    obtain ⟨k, cf, i, a, -, -, -, -, -, h9⟩ := Cond.stringRef_spec hc h1
    exact ⟨a, vk_R.of h1 h9⟩
  have C : CxK X_law D z (0, 0) p s m #[Value.ref b] meth c A := ⟨tk_law, hfix, hO, hN, hK, hA, fun h => absurd h (by decide), ⟨Nat.zero_le _, Nat.zero_le _⟩⟩
  have hl := lv_entry [.ref b] (n := 7) (Nat.le_of_ble_eq_true rfl)
  rw [lg_entry_eq]
  generalize (lg_sl [.ref b] ++ List.replicate (7 - (lg_sl [.ref b]).length) Slot.unset).toArray = ls at hl ⊢
  have hl : lv_has ls 7 [(0, .ref b)] := hl
  suffices hG : Gk l X_law D z A p e s m #[Value.ref b] below meth c (lw_Z below #[Value.ref b] s) (0, 0) 0 [(0, .ref b)] [] [] from
    hG s.heap [] ls ⟨Nat.zero_le _, Nat.zero_le _⟩ hl (fun k q hk => by simp at hk) ⟨fun i j x y h1 => by simp at h1, fun k q hk => by simp at hk⟩ va_S.rf
  refine k_new C (ci := 1) [.null, .null, .null, .null] tf_D 0 rfl uw_D tf_D_ok wb_17 wb_18 wb_1 rfl (fun j hj => by rcases (show j = 0 ∨ j = 1 ∨ j = 2 ∨ j = 3 by omega) with rfl | rfl | rfl | rfl <;> rfl) (1, 4) rfl (by decide) (fun q1 => ?_)
  refine k_dup C 1 rfl ?_
  refine k_callI C 0 [] [] 2 rfl (k_D_init l D z q1) mk_D_init (Or.inl wb_19) rfl rfl wb_20 (by decide +kernel) ⟨(Nat.le_of_ble_eq_true rfl), (Nat.le_of_ble_eq_true rfl)⟩ (Nat.le_of_ble_eq_true rfl) rfl rfl (by decide) (by decide) (29, 6421) rfl (by decide) (fun w1 hw1 => ?_)
  obtain ⟨u, rfl⟩ := hw1
  refine k_astore C 3 rfl rfl (Nat.le_of_ble_eq_true rfl) [(1, _), (0, _)] rfl ?_
  refine k_new C (ci := 5) [.int 0, .null, .null, .null, .int 0, .null, .null, .null, .null, .null, .null, .null] tf_M 4 rfl uw_M tf_M_ok wb_519 wb_520 wb_6 rfl (fun j hj => by rcases (show j = 0 ∨ j = 1 ∨ j = 2 ∨ j = 3 ∨ j = 4 ∨ j = 5 ∨ j = 6 ∨ j = 7 ∨ j = 8 ∨ j = 9 ∨ j = 10 ∨ j = 11 by omega) with rfl | rfl | rfl | rfl | rfl | rfl | rfl | rfl | rfl | rfl | rfl | rfl <;> rfl) (30, 6433) rfl (by decide) (fun q2 => ?_)
  refine k_dup C 5 rfl ?_
  refine k_callI C 29 [0, 1, 2, 3, 4, 5, 6, 7, 8, 9, 10, 11, 12, 13, 14, 15, 16, 17, 18, 19, 20, 21, 22, 23, 24, 25, 26, 27, 28] (wT_D z q1 u) 6 rfl (k_M_init l D z q2) mk_M_init (Or.inl wb_521) rfl rfl wb_522 (by decide +kernel) ⟨(Nat.le_of_ble_eq_true rfl), (Nat.le_of_ble_eq_true rfl)⟩ (Nat.le_of_ble_eq_true rfl) rfl rfl (by decide) (by decide) (40, 13902) rfl (by decide) (fun w1 hw1 => ?_)
  obtain ⟨v, rfl⟩ := hw1
  refine k_astore C 7 rfl rfl (Nat.le_of_ble_eq_true rfl) [(2, _), (1, _), (0, _)] rfl ?_
  refine k_iconst C 1 8 rfl (by decide) ?_
  refine k_newl C 1 9 rfl (by decide) (by decide) (by decide) (41, 13903) rfl (by decide) (fun q3 => ?_)
  refine k_astore C 10 rfl rfl (Nat.le_of_ble_eq_true rfl) [(3, _), (2, _), (1, _), (0, _)] rfl ?_
  refine k_iconst C 0 11 rfl (by decide) ?_
  refine k_istoreW C 12 rfl (Nat.le_of_ble_eq_true rfl) [(4, _), (3, _), (2, _), (1, _), (0, _)] rfl ?_
  intro H locs ls hR hl hP hD hS
  have hP : va_P D classes (wT_D z q1 u ++ wT_M z q2 v ++ [(q3, .inl (z.2.1, 1, .inr (.inl (fun _ => 0))))]) H := hP
  have hD : va_D A (wT_D z q1 u ++ wT_M z q2 v ++ [(q3, .inl (z.2.1, 1, .inr (.inl (fun _ => 0))))]) := hD
  obtain ⟨ad, hade⟩ : ∃ ad : AD, ad = adl b q1 q2 q3 u v := ⟨_, rfl⟩
  have h4 : va_at D classes (u 0, .inl (z.2.2, 6, .inr (.inr (.inr (.inr (fun i => some (adl b q1 q2 q3 u v (0, i)))))))) H := by
    have h := hP 1 _ rfl
    refine h.trans (congrArg some ?_)
    refine arrV_eq (cA := z.2.2) (N := 6) (f := fun j => va_rf ((va_up (va_up (va_up (va_up (va_up (va_up (fun _ => none) 0 (some (u 1))) 1 (some (u 3))) 2 (some (u 5))) 3 (some (u 7))) 4 (some (u 9))) 5 (some (u 11))) j)) (g := fun j => va_rf (some (adl b q1 q2 q3 u v (0, j)))) (fun j hj => ?_)
    rcases (show j = 0 ∨ j = 1 ∨ j = 2 ∨ j = 3 ∨ j = 4 ∨ j = 5 by omega) with rfl | rfl | rfl | rfl | rfl | rfl <;> rfl
  have hP2 := va_P_set (k0 := 1) hP rfl h4
  have hD2 := va_D.set (p := 1) (e := .inl (z.2.2, 6, .inr (.inr (.inr (.inr (fun i => some (adl b q1 q2 q3 u v (0, i)))))))) hD rfl
  have hP3 : va_P D classes (wd (adl b q1 q2 q3 u v) z M0) H := hP2.sub [2, 4, 6, 8, 10, 12, 14, 3, 5, 7, 9, 11, 13, 15, 17, 18, 19, 20, 21, 24, 25, 27, 28, 30, 31, 32, 33, 37, 38, 39, 34, 35, 36, 40, 0, 1, 16, 22, 23, 26, 29] rfl
  have hD3 : va_D A (wd (adl b q1 q2 q3 u v) z M0) := hD2.sub [2, 4, 6, 8, 10, 12, 14, 3, 5, 7, 9, 11, 13, 15, 17, 18, 19, 20, 21, 24, 25, 27, 28, 30, 31, 32, 33, 37, 38, 39, 34, 35, 36, 40, 0, 1, 16, 22, 23, 26, 29] (by decide) rfl
  have hW := w_law (l := l) (xs := xs) (Ln := L) 600 (0, M0) (41, 13903) (by decide) (law_pure xs L hL) D (adl b q1 q2 q3 u v) z p e s m #[Value.ref b] below meth c H locs ls A ⟨tk_law, hfix, hr, hlk, hN, hK, hA, hE, ⟨by decide, by decide⟩, hX, hbl, hA3 b hbl, hA2⟩ (lv_sub hl [4, 3, 2, 1, 0] rfl) ⟨hP3, hD3, hS⟩
  intro T hT S
  obtain ⟨t, g1, g2⟩ := hW T hT S
  exact ⟨t, g1, g2 ⟨b, rfl⟩⟩
