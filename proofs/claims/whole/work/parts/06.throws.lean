/-! methods that may throw, and their callers -/
theorem fbI (b : Bool) : fits .boolean (.int (bI b)) = true := by cases b <;> rfl
def gX (D : va_G) (ad : AD) (z : Zc) (xp : String → Mm → Prop) (A : Nat → Prop) : String → State → State → Prop := fun E st t =>
  (∃ M' : Mm, xp E M' ∧ va_P D classes (wd ad z M') t.heap ∧ va_K D classes (tz z) t ∧ va_D A (wd ad z M')) ∧ va_F A st t
def xTk (post : Option PV → Mm → Prop) (xp : String → Mm → Prop) (mc ms : Nat) (K : AD → State → (Nat → Prop) → Code → Prop) : Tgt := (fun D ad z s args below A => vx_MQ below (gQ D ad z post A) (gX D ad z xp A) args s mc ms A, K)
def noTab : AD → State → (Nat → Prop) → Code → Prop := fun _ _ _ c => ∀ x ∈ c.exceptionTable.toList, False
def hasTab (hh : List (Nat × Nat × Nat × Nat)) : AD → State → (Nat → Prop) → Code → Prop := fun _ _ _ c => c.exceptionTable.toList = tableOf hh
def MkX (X : MX) : Prop := TBk (xc X) (xt X) ∧ plainName (xy X).cls = true ∧ Cond.code (xy X) (xc X) (xn X) (xr X) ∈ WB ∧ ((xy X).cls ≠ "java/lang/invoke/MethodHandle" ∧ (xy X).cls ≠ "java/lang/invoke/VarHandle") ∧ Cond.initialized (xy X).cls ∈ WB
def xwW (X : MX) (hh : List (Nat × Nat × Nat × Nat)) : List Cond := Cond.codeWith (xy X) (xc X) (xn X) (xr X) hh :: WB
def MkW (X : MX) (hh : List (Nat × Nat × Nat × Nat)) : Prop := TBk (xc X) (xt X) ∧ plainName (xy X).cls = true ∧ Cond.codeWith (xy X) (xc X) (xn X) (xr X) hh ∈ WB ∧ ((xy X).cls ≠ "java/lang/invoke/MethodHandle" ∧ (xy X).cls ≠ "java/lang/invoke/VarHandle") ∧ Cond.initialized (xy X).cls ∈ WB
theorem gi_ofX {Y : MX} (hY : MkX Y) : GoodIn WB (xw Y) := by
  intro w hw
  rcases List.mem_cons.mp hw with rfl | hw
  · exact ⟨hY.2.2.1, good_of_word (List.mem_filter.mp hY.2.2.1).2⟩
  · exact ⟨hw, good_of_word (List.mem_filter.mp hw).2⟩
theorem gi_ofW {Y : MX} {hh : List (Nat × Nat × Nat × Nat)} (hY : MkW Y hh) : GoodIn WB (xwW Y hh) := by
  intro w hw
  rcases List.mem_cons.mp hw with rfl | hw
  · exact ⟨hY.2.2.1, good_of_word (List.mem_filter.mp hY.2.2.1).2⟩
  · exact ⟨hw, good_of_word (List.mem_filter.mp hw).2⟩
/-- the contract of a method that may throw -/
def EvX (l : Launch) (X : MX) (av : List PV) (M : Mm) (post : Option PV → Mm → Prop) (xp : String → Mm → Prop) : Prop :=
  ∀ (D : va_G) (ad : AD) (z : Zc) (sz : Nat), vx_Met l (xy X) (xw X) (xm X) (va_Pc (smap ad av) (PreW l D ad z M sz)) (gQ D ad z post (va_A (wd ad z M) sz)) (gX D ad z xp (va_A (wd ad z M) sz)) (xm X).cells (xm X).slots (va_A (wd ad z M) sz)
/-- .. of one with a table of its own, that throws nothing -/
def EvW (l : Launch) (X : MX) (hh : List (Nat × Nat × Nat × Nat)) (av : List PV) (M : Mm) (post : Option PV → Mm → Prop) : Prop :=
  ∀ (D : va_G) (ad : AD) (z : Zc) (sz : Nat), vx_Met l (xy X) (xwW X hh) (xm X) (va_Pc (smap ad av) (PreW l D ad z M sz)) (gQ D ad z post (va_A (wd ad z M) sz)) (gX D ad z (fun _ _ => False) (va_A (wd ad z M) sz)) (xm X).cells (xm X).slots (va_A (wd ad z M) sz)
theorem EvX.of {l : Launch} {X : MX} {av : List PV} {M : Mm} {post : Option PV → Mm → Prop} {xp : String → Mm → Prop} (hX : MkX X) (L : List (Nat × PV)) (hL : ∀ ad : AD, lv_args 0 (smap ad av) = lmap ad L) (hn : ∀ ad : AD, (lg_sl (smap ad av)).length ≤ xn X) (g : Gx l X (xTk post xp (xm X).cells (xm X).slots noTab) (0, 0) 0 L [] M) : EvX l X av M post xp := by
  intro D ad z sz
  refine vx_ofW (cc := xc X) (maxL := xn X) (ret := xr X) hX.2.1 rfl ?_
  intro p e s m args below meth c s₁ B hml htab hv
  obtain ⟨rfl, hsz, hE, hN, hP, hK, hD0⟩ := hv
  subst hsz
  have hts := atoms_spec (ws := xw X) B.pre
  have hl := lv_entry (smap ad av) (n := xn X) (hn ad)
  rw [lg_entry_eq]
  generalize (lg_sl (smap ad av) ++ List.replicate (xn X - (lg_sl (smap ad av)).length) Slot.unset).toArray = ls at hl ⊢
  rw [hL ad] at hl
  exact g D ad z p e s m _ below meth c s.heap [] ls (va_A (wd ad z M) s.heap.size) ⟨hX.1, ⟨B.exec, B.bytes, hml, findClass_of_methodNamed B.named, fun w hw => hts w (List.mem_cons_of_mem _ hw)⟩, B.returns, B.notSynchronized, hN, hK, fun q h => Or.inr h, hE, ⟨Nat.zero_le _, Nat.zero_le _⟩, htab⟩ hl ⟨hP, hD0.self, va_S.rf⟩
theorem EvW.of {l : Launch} {X : MX} {hh : List (Nat × Nat × Nat × Nat)} {av : List PV} {M : Mm} {post : Option PV → Mm → Prop} (hX : MkW X hh) (L : List (Nat × PV)) (hL : ∀ ad : AD, lv_args 0 (smap ad av) = lmap ad L) (hn : ∀ ad : AD, (lg_sl (smap ad av)).length ≤ xn X) (g : Gx l X (xTk post (fun _ _ => False) (xm X).cells (xm X).slots (hasTab hh)) (0, 0) 0 L [] M) : EvW l X hh av M post := by
  intro D ad z sz
  refine vx_ofWH (cc := xc X) (maxL := xn X) (ret := xr X) (hh := hh) hX.2.1 rfl ?_
  intro p e s m args below meth c s₁ B hml hv
  obtain ⟨rfl, hsz, hE, hN, hP, hK, hD0⟩ := hv
  subst hsz
  have hts := atoms_spec (ws := xwW X hh) B.pre
  have htab := vx_table (x := xy X) B (hts _ List.mem_cons_self)
  have hl := lv_entry (smap ad av) (n := xn X) (hn ad)
  rw [lg_entry_eq]
  generalize (lg_sl (smap ad av) ++ List.replicate (xn X - (lg_sl (smap ad av)).length) Slot.unset).toArray = ls at hl ⊢
  rw [hL ad] at hl
  exact g D ad z p e s m _ below meth c s.heap [] ls (va_A (wd ad z M) s.heap.size) ⟨hX.1, ⟨B.exec, B.bytes, hml, findClass_of_methodNamed B.named, fun w hw => hts w (List.mem_cons_of_mem _ hw)⟩, B.returns, B.notSynchronized, hN, hK, fun q h => Or.inr h, hE, ⟨Nat.zero_le _, Nat.zero_le _⟩, htab⟩ hl ⟨hP, hD0.self, va_S.rf⟩
/-- the machine goes on with a throwable of class E -/
def Gt (l : Launch) (X : MX) (tg : Tgt) (cs : Nat × Nat) (pc : Nat) (L : List (Nat × PV)) (st : List PV) (E : String) (M : Mm) : Prop :=
  ∀ (D : va_G) (ad : AD) (z : Zc) (p : Program) (e : Env) (s : State) (m : MethodId) (args : Array Value) (below : List Frame) (meth : Method) (c : Code) (H : Heap) (locs : List Loc) (ls : Array Slot) (A : Nat → Prop) (q : Addr) (ce : Cell),
    Cx l X tg cs D ad z p s m args meth c A → lv_has ls (xn X) (lmap ad L) → Hw D ad z s A M H locs → H[q]? = some ce → ce.vm = .none → s.vm.findClass E = some ce.cls → vx_W p l e (xm X) s m args below meth c H locs cs.1 cs.2 (tg.1 D ad z s args below A) (F0 m pc ls (smap ad st)) q
section TH
variable {l : Launch} {X : MX} {tg : Tgt} {cs : Nat × Nat} {post : Option PV → Mm → Prop} {xp : String → Mm → Prop} {K : AD → State → (Nat → Prop) → Code → Prop} {mc ms : Nat} {pc pc' : Nat} {L : List (Nat × PV)} {st : List PV} {M : Mm}
theorem cx_room {D : va_G} {ad : AD} {z : Zc} {p : Program} {s : State} {m : MethodId} {args : Array Value} {meth : Method} {c : Code} {A : Nat → Prop} (C : Cx l X tg cs D ad z p s m args meth c A) {cs' : Nat × Nat} (h : cs'.1 ≤ (xm X).cells ∧ cs'.2 ≤ (xm X).slots) : Cx l X tg cs' D ad z p s m args meth c A :=
  ⟨C.1, C.2.1, C.2.2.1, C.2.2.2.1, C.2.2.2.2.1, C.2.2.2.2.2.1, C.2.2.2.2.2.2.1, C.2.2.2.2.2.2.2.1, h, C.2.2.2.2.2.2.2.2.2⟩
theorem go_xret {x : PV} (k : Nat) {ty : FieldType} {v : Int32} (hx : x = vi v) (hk : (xt X)[k]? = some (pc, .ireturn, pc')) (hr : xr X = some ty) (hn : narrow ty (.int v) = .int v) (hc : cs.1 ≤ mc ∧ cs.2 ≤ ms) (hp : post (some x) M) : Gx l X (xTk post xp mc ms K) cs pc L [x] M := by
  subst hx
  intro D ad z p e s m args below meth c H locs ls A C hl hW
  obtain ⟨d, e1⟩ := C.1.at hk
  exact W.widen hc.1 hc.2 (vx_ret (W.zret (v := v) (ty := ty) C.2.1.1 C.2.1.2.1 (C.2.2.1.trans hr) hn (fun t ht hWa => ret_q C hW (some (vi v)) hp ht hWa _) hW.2.2.2.2 d C.2.2.2.1))
theorem go_xareturn {a b : Nat} {rt : FieldType} (k : Nat) (hk : (xt X)[k]? = some (pc, .areturn, pc')) (hr : xr X = some rt) (hrt : (∃ n, rt = .object n) ∨ ∃ t, rt = .array t) (hc : cs.1 ≤ mc ∧ cs.2 ≤ ms) (hp : post (some (vr a b)) M) : Gx l X (xTk post xp mc ms K) cs pc L [vr a b] M := by
  intro D ad z p e s m args below meth c H locs ls A C hl hW
  obtain ⟨d, e1⟩ := C.1.at hk
  exact W.widen hc.1 hc.2 (vx_ret (W.aret (v := .ref (ad (a, b))) C.2.1.1 C.2.1.2.1 (C.2.2.1.trans hr) hrt (Or.inr ⟨_, rfl⟩) (fun t ht hWa => ret_q C hW (some (vr a b)) hp ht hWa _) hW.2.2.2.2 d C.2.2.2.1))
theorem go_xreturn (k : Nat) (hk : (xt X)[k]? = some (pc, .return_, pc')) (hr : xr X = none) (hc : cs.1 ≤ mc ∧ cs.2 ≤ ms) (hp : post none M) : Gx l X (xTk post xp mc ms K) cs pc L [] M := by
  intro D ad z p e s m args below meth c H locs ls A C hl hW
  obtain ⟨d, e1⟩ := C.1.at hk
  exact W.widen hc.1 hc.2 (vx_ret (W.vret C.2.1.1 C.2.1.2.1 (C.2.2.1.trans hr) (fun t ht hWa => ret_q C hW none hp ht hWa _) hW.2.2.2.2 d C.2.2.2.1))
def xnA : List String := ["java/lang/RuntimeException", "java/lang/Exception"]
/-- what a throw site asks of the tables -/
def ATS (own : String) (ik ic : Nat) (E : String) : Prop := Cond.classLink own ik E ∈ WB ∧ Cond.initialized E ∈ WB ∧ (vx_atS own ic E xnA).all (fun w => if goodWord w = true then decide (w ∈ WB) else decide (w ∈ NW)) = true ∧ (Cond.classLink own ik E :: Cond.initialized E :: vx_atS own ic E xnA).all vx_ot = true ∧ Bundle.fit E = true
theorem gx_end {D : va_G} {ad : AD} {z : Zc} {p : Program} {s : State} {m : MethodId} {args : Array Value} {meth : Method} {c : Code} {A : Nat → Prop} {H : Heap} {locs : List Loc} {E : String} (C : Cx l X tg cs D ad z p s m args meth c A) (hW : Hw D ad z s A M H locs) (hx : xp E M) {t : State} (hv : s.vm.Alike t.vm) (h1 : H.size ≤ t.heap.size) (h2 : ∀ q : Nat, q < H.size → t.heap[q]? = H[q]?) : gX D ad z xp A E s t :=
  ⟨⟨M, hx, va_P.kept hW.1 (fun k q hk => h2 q.1 (hW.1 k q hk).lt), va_K.moved hv C.2.2.2.2.2.1, hW.2.1⟩, Nat.le_trans hW.2.2.1 h1, fun q a b => by rw [h2 q (Nat.lt_of_lt_of_le a hW.2.2.1)]; exact hW.2.2.2.1 q a b⟩
theorem go_throw {ik is ic p1 p2 p3 p4 p5 : Nat} {E text : String} (k : Nat) (k0 : (xt X)[k]? = some (pc, .new ik, p1)) (k1 : (xt X)[k + 1]? = some (p1, .dup, p2)) (k2 : (xt X)[k + 2]? = some (p2, .ldc is, p3)) (k3 : (xt X)[k + 3]? = some (p3, .invokespecial ic, p4)) (k4 : (xt X)[k + 4]? = some (p4, .athrow, p5))
    (ha : ATS (xy X).cls ik ic E) (hs : ((xy X).cls, is, text) ∈ STR) (hRf : 5 < (xm X).frames) (hRl : (st.map pcat).sum + 82 ≤ (xm X).locals) (hc : cs.1 + 1 ≤ mc ∧ cs.2 + 6 ≤ ms) (hR : mc ≤ (xm X).cells ∧ ms ≤ (xm X).slots) (hx : xp E M) : Gx l X (xTk post xp mc ms noTab) cs pc L st M := by
  intro D ad z p e s m args below meth c H locs ls A C hl hW
  obtain ⟨d0, e0⟩ := C.1.at k0
  subst e0
  obtain ⟨d1, e1⟩ := C.1.at k1
  subst e1
  obtain ⟨d2, e2⟩ := C.1.at k2
  subst e2
  obtain ⟨d3, e3⟩ := C.1.at k3
  subst e3
  obtain ⟨d4, -⟩ := C.1.at k4
  obtain ⟨x1, x2, x3, x4, -⟩ := C.2.2.2.2.2.2.2.1
  obtain ⟨sa, hsa⟩ := x4 _ hs
  have htab : ∀ x ∈ c.exceptionTable.toList, False := C.2.2.2.2.2.2.2.2.2
  have hts := C.2.1.2.2.2.2
  have hat : ∀ w ∈ vx_atS (xy X).cls ic E xnA, w.before args s = true := by
    intro w hw
    have h9 := List.all_eq_true.mp ha.2.2.1 w hw
    by_cases hg : goodWord w = true
    · rw [if_pos hg] at h9
      exact hts w (of_decide_eq_true h9)
    · rw [if_neg hg] at h9
      have hn := of_decide_eq_true h9
      have hq := NW_nest w hn
      have hz := C.2.2.2.2.1 w hn
      exact va_Nw.use (by cases w <;> first | rfl | (exact absurd hq (by simp [nestW]))) hz
  exact vx_throwS (is := is) (ic := ic) (ik := ik) (text := text) (cls := E) (names := xnA) C.2.1.1 C.2.1.2.1 x1 C.2.1.2.2.2.1 ha.2.2.2.2 (by decide) (hts _ ha.1) (hts _ ha.2.1) hsa hat (fun w hw => List.all_eq_true.mp ha.2.2.2.1 w hw) x2 x3 hW.2.2 (hl.1.trans C.2.1.2.2.1.symm) d0 d1 d2 d3 d4 (fun x h => (htab x h).elim) (by show 2 + 3 < _; exact hRf) (by have := pcat_sum (ad := ad) (st := st) (w := (st.map pcat).sum) (Nat.le_refl _); show _ + (13 * (2 + 1) + 43) ≤ _; omega) (by omega) (by omega) C.2.2.2.1 (fun t hv h1 h2 => gx_end C hW hx hv h1 h2) hW.2.2.2.2 hc.1 hc.2
theorem gt_out {E : String} (hc : cs.1 ≤ mc ∧ cs.2 ≤ ms) (hx : xp E M) : Gt l X (xTk post xp mc ms noTab) cs pc L st E M := by
  intro D ad z p e s m args below meth c H locs ls A q ce C hl hW h1 h2 h3
  have htab : ∀ x ∈ c.exceptionTable.toList, False := C.2.2.2.2.2.2.2.2.2
  exact vx_out (fun x h => (htab x h).elim) C.2.2.2.1 h1 h2 h3 (fun t ht hv => gx_end C hW hx hv (by rw [ht]; exact Nat.le_refl _) (fun q _ => by rw [ht])) hW.2.2.2.2 hc.1 hc.2
/-- behind a call of a method that may throw -/
theorem go_retX {D : va_G} {ad : AD} {z : Zc} {p : Program} {e : Env} {s : State} {m : MethodId} {args : Array Value} {below : List Frame} {meth : Method} {c : Code} {H : Heap} {locs : List Loc} {ls : Array Slot} {A : Nat → Prop} {postY : Option PV → Mm → Prop} {xpY : String → Mm → Prop} {stk : List Value} {a : Array Value} {yc ys : Nat} (C : Cx l X tg cs D ad z p s m args meth c A) (hl : lv_has ls (xn X) (lmap ad L)) (hW : Hw D ad z s A M H locs) (hcs : cs.1 + yc ≤ (xm X).cells ∧ cs.2 + ys ≤ (xm X).slots)
    (hr : vx_Run p l e (xm X) s m args below meth c H locs cs.1 cs.2 yc ys (F0 m pc ls stk) (smap ad st) (gQ D ad z postY (va_A (wd ad z M) H.size) a) (gX D ad z xpY (va_A (wd ad z M) H.size)) (va_A (wd ad z M) H.size))
    (g : ∀ r M', postY r M' → Gx l X tg (cs.1 + yc, cs.2 + ys) (pc + 3) L (r.toList ++ st) M') (gx : ∀ E M', xpY E M' → Gt l X tg (cs.1 + yc, cs.2 + ys) pc L st E M') : W p l e (xm X) s m args below meth c H locs cs.1 cs.2 (tg.1 D ad z s args below A) (F0 m pc ls stk) := by
  have hF := wd_A C.2.2.2.2.2.2.1 hW
  have C' : Cx l X tg (cs.1 + yc, cs.2 + ys) D ad z p s m args meth c A := cx_room C hcs
  intro T hT S
  rcases hr T hT S with ⟨v, st0, t, T', Lc, h0, S', hL, e1, e2, ⟨⟨r, M', hv, hp, hP1, hK1, hD1⟩, hFr⟩, sp⟩ | ⟨q, st0, t, T', Lc, E, ce, h0, S', hL, e1, e2, ⟨⟨M', hp, hP1, hK1, hD1⟩, hFr⟩, hce, hcv, hcl, sp⟩
  · have hv2 : v = r.map (tv ad) := by injection hv
    subst hv2
    obtain ⟨-, -, k3⟩ := vx_keep h0 e1 hW.2.2 (fun q _ h => hF q h) hF hL hFr
    obtain ⟨t2, a1, b1⟩ := g r M' hp D ad z p e s m args below meth c T'.heap (locs ++ Lc) ls A C' hl ⟨by rw [e1]; exact hP1, hD1.weaken (fun _ _ _ h => hF _ h), k3⟩ T' rfl S'
    have e3 : smap ad (r.toList ++ st) = (r.map (tv ad)).toList ++ smap ad st := by cases r <;> simp [smap]
    rw [e3] at a1
    exact ⟨t2, sp t2 a1, b1⟩
  · obtain ⟨-, -, k3⟩ := vx_keep h0 e1 hW.2.2 (fun q _ h => hF q h) hF hL hFr
    obtain ⟨t2, a1, b1⟩ := gx E M' hp D ad z p e s m args below meth c T'.heap (locs ++ Lc) ls A q ce C' hl ⟨by rw [e1]; exact hP1, hD1.weaken (fun _ _ _ h => hF _ h), k3⟩ (by rw [e1]; exact hce) hcv hcl T' rfl S'
    exact ⟨t2, sp.trans a1, b1⟩
theorem go_callX {Y : MX} {postY : Option PV → Mm → Prop} {xpY : String → Mm → Prop} {idx n kd j : Nat} (av : List PV) (k : Nat) (hk : (xt X)[k]? = some (pc, .invokevirtual idx, pc')) (E : EvX l Y (vr kd j :: av) M postY xpY) (hY : MkX Y) (ho : (kd, j) ∈ allc) (hb : objk kd = true) (ca : CV (xy X).cls idx Y n kd) (hlk : Cond.methodLink (xy X).cls idx (xy Y) ∈ WB) (hn : av.length = n) (hR : Rm X Y) (hcs : cs.1 + (xm Y).cells ≤ (xm X).cells ∧ cs.2 + (xm Y).slots ≤ (xm X).slots) (hst : (st.map pcat).sum ≤ 8) {stk : List PV} (hs : stk = av.reverse ++ vr kd j :: st) (g : ∀ r M', postY r M' → Gx l X tg (cs.1 + (xm Y).cells, cs.2 + (xm Y).slots) pc' L (r.toList ++ st) M') (gx : ∀ E M', xpY E M' → Gt l X tg (cs.1 + (xm Y).cells, cs.2 + (xm Y).slots) pc L st E M') : Gx l X tg cs pc L stk M := by
  intro D ad z p e s m args below meth c H locs ls A C hl hW
  obtain ⟨d, e1⟩ := C.1.at hk
  subst e1
  obtain ⟨-, ⟨c2, c2b⟩, c3, T, N, c4⟩ := ca
  have hts := C.2.1.2.2.2.2
  have hst2 : (F0 m pc ls (smap ad stk)).stack = (smap ad av).reverse ++ .ref (ad (kd, j)) :: smap ad st := by subst hs; simp [smap, tv]
  have hd := hY.2.2.2.1
  obtain ⟨q, hq, -⟩ := wd_at (ad := ad) (z := z) (M := M) ho
  rw [ent_obj hb] at hq
  have hrc := va_recv C.2.2.2.2.2.1 hW.1 c4 hq
  refine go_retX (postY := postY) (xpY := xpY) (a := (Value.ref (ad (kd, j)) :: smap ad av).toArray) C hl hW hcs ?_ g gx
  exact vx_runV (n := n) (index := idx) (C := (xy Y).cls) (b := ad (kd, j)) C.2.1 (E D ad z H.size) ⟨callB_of n hts (gi_ofX hY) rfl rfl rfl (hts _ hY.2.2.2.2) (hts _ hlk) ⟨hd.1, hd.2, c3⟩ hR, hts _ c2, hts _ c2b⟩ ⟨preW_blind, hrc, fun U hU hWa => ⟨rfl, preW_at C hW hU hWa⟩⟩ rfl (by simpa [smap] using hn) hl.1 hst2 (lv_room (pcat_sum hst)) d hcs
/-- .. when it is known that it returns -/
theorem go_callXn {Y : MX} {r : Option PV} {M1 : Mm} {xpY : String → Mm → Prop} {idx n kd j : Nat} (av : List PV) (k : Nat) (hk : (xt X)[k]? = some (pc, .invokevirtual idx, pc')) (E : EvX l Y (vr kd j :: av) M (fun v M2 => v = r ∧ M2 = M1) xpY) (hxp : ∀ E M2, ¬ xpY E M2) (hY : MkX Y) (ho : (kd, j) ∈ allc) (hb : objk kd = true) (ca : CV (xy X).cls idx Y n kd) (hlk : Cond.methodLink (xy X).cls idx (xy Y) ∈ WB) (hn : av.length = n) (hR : Rm X Y) (hcs : cs.1 + (xm Y).cells ≤ (xm X).cells ∧ cs.2 + (xm Y).slots ≤ (xm X).slots) (hst : (st.map pcat).sum ≤ 8) {stk : List PV} (hs : stk = av.reverse ++ vr kd j :: st) (cs' : Nat × Nat) (hcs' : (cs.1 + (xm Y).cells, cs.2 + (xm Y).slots) = cs') (g : Gx l X tg cs' pc' L (r.toList ++ st) M1) : Gx l X tg cs pc L stk M := by
  subst hcs'
  exact go_callX av k hk E hY ho hb ca hlk hn hR hcs hst hs (fun _ _ h => by rw [h.1, h.2]; exact g) (fun E M2 h => (hxp E M2 h).elim)
/-- .. when it is known that it throws -/
theorem go_callXt {Y : MX} {postY : Option PV → Mm → Prop} {E0 : String} {M1 : Mm} {idx n kd j : Nat} (av : List PV) (k : Nat) (hk : (xt X)[k]? = some (pc, .invokevirtual idx, pc')) (E : EvX l Y (vr kd j :: av) M postY (fun E M2 => E = E0 ∧ M2 = M1)) (hpn : ∀ v M2, ¬ postY v M2) (hY : MkX Y) (ho : (kd, j) ∈ allc) (hb : objk kd = true) (ca : CV (xy X).cls idx Y n kd) (hlk : Cond.methodLink (xy X).cls idx (xy Y) ∈ WB) (hn : av.length = n) (hR : Rm X Y) (hcs : cs.1 + (xm Y).cells ≤ (xm X).cells ∧ cs.2 + (xm Y).slots ≤ (xm X).slots) (hst : (st.map pcat).sum ≤ 8) {stk : List PV} (hs : stk = av.reverse ++ vr kd j :: st) (cs' : Nat × Nat) (hcs' : (cs.1 + (xm Y).cells, cs.2 + (xm Y).slots) = cs') (g : Gt l X tg cs' pc L st E0 M1) : Gx l X tg cs pc L stk M := by
  subst hcs'
  exact go_callX av k hk E hY ho hb ca hlk hn hR hcs hst hs (fun v M2 h => (hpn v M2 h).elim) (fun E M2 h => by rw [h.1, h.2]; exact g)
/-- a catch that returns a constant: astore; iconst; ireturn -/
theorem gt_catch {hh : List (Nat × Nat × Nat × Nat)} {E : String} {hpc q1 q2 q3 i : Nat} {n : Int} {v : Int32} (n0 : Nat) (x : ExceptionTableEntry) (hx : (tableOf hh)[n0]? = some x) (hcv : covers x pc = true) (ht0 : x.catchType ≠ 0) (hlk : Cond.classLink (xy X).cls x.catchType E ∈ WB) (hcast : Cond.castable E E ∈ NW) (hhp : x.handlerPc = hpc)
    (hpre : ∀ y ∈ (tableOf hh).take n0, y.catchType ≠ 0 ∧ ∃ nm : String, Cond.classLink (xy X).cls y.catchType nm ∈ WB ∧ ((E = "java/lang/IllegalStateException" ∧ nm = "java/lang/IllegalArgumentException") ∨ (E = "java/util/NoSuchElementException" ∧ nm = "java/lang/IllegalArgumentException")))
    (k : Nat) (hk0 : (∃ f : Fin 4, (f : Nat) = i ∧ (xt X)[k]? = some (hpc, .astore_n f, q1)) ∨ (xt X)[k]? = some (hpc, .astore i, q1)) (hi : i < xn X) (hk1 : (xt X)[k + 1]? = some (q1, .iconst n, q2)) (hv : Int32.ofInt n = v) (hk2 : (xt X)[k + 2]? = some (q2, .ireturn, q3)) (hr : xr X = some .int) (hc : cs.1 ≤ mc ∧ cs.2 ≤ ms) (hp : post (some (vi v)) M) : Gt l X (xTk post xp mc ms (hasTab hh)) cs pc L st E M := by
  intro D ad z p e s m args below meth c H locs ls A q ce C hl hW h1 h2 h3
  have htab : c.exceptionTable.toList = tableOf hh := C.2.2.2.2.2.2.2.2.2
  have hts := C.2.1.2.2.2.2
  have hN := C.2.2.2.2.2.2.2.1.2.2.2.2
  have hlt := (List.getElem?_eq_some_iff.mp hx).1
  have hsplit : c.exceptionTable.toList = (tableOf hh).take n0 ++ x :: (tableOf hh).drop (n0 + 1) := by
    rw [htab]
    have e1 := List.take_append_drop n0 (tableOf hh)
    rw [List.drop_eq_getElem_cons hlt] at e1
    have e2 : (tableOf hh)[n0] = x := (List.getElem?_eq_some_iff.mp hx).2
    rw [e2] at e1
    exact e1.symm
  refine vx_catch (name := E) C.2.1.2.2.2.1 _ x _ hsplit (fun y hy => ?_) hcv ht0 (hts _ hlk) (va_Nw.use rfl (C.2.2.2.2.1 _ hcast)) h1 h2 h3 ?_
  · obtain ⟨a, nm, b, cc⟩ := hpre y hy
    refine Or.inr ⟨a, nm, hts _ b, ?_⟩
    rcases cc with ⟨rfl, rfl⟩ | ⟨rfl, rfl⟩
    · exact hN.1
    · exact hN.2
  · rw [hhp]
    obtain ⟨d1, e1⟩ := C.1.at hk1
    subst e1
    obtain ⟨d2, -⟩ := C.1.at hk2
    have fin : ∀ ls2 : Array Slot, W p l e (xm X) s m args below meth c H locs cs.1 cs.2 ((xTk post xp mc ms (hasTab hh)).1 D ad z s args below A) (F0 m q1 ls2 []) := by
      intro ls2
      refine lv_iconst (rest := []) C.2.1.1 C.2.1.2.1 d1 hv ?_
      exact W.widen hc.1 hc.2 (vx_ret (W.zret (v := v) (ty := .int) C.2.1.1 C.2.1.2.1 (C.2.2.1.trans hr) rfl (fun t ht hWa => ret_q C hW (some (vi v)) hp ht hWa _) hW.2.2.2.2 d2 C.2.2.2.1))
    rcases hk0 with ⟨f, hf, hk0⟩ | hk0
    · obtain ⟨d0, e0⟩ := C.1.at hk0
      subst e0
      exact lv_astore_n (rest := []) C.2.1.1 C.2.1.2.1 d0 hf hl hi rfl (fun ls2 _ => fin ls2)
    · obtain ⟨d0, e0⟩ := C.1.at hk0
      subst e0
      exact lv_astore (rest := []) C.2.1.1 C.2.1.2.1 d0 hl hi rfl (fun ls2 _ => fin ls2)
/-- a static call of a method with a table of its own -/
theorem go_callW {Y : MX} {hh : List (Nat × Nat × Nat × Nat)} {r : Option PV} {M1 : Mm} {idx n : Nat} (av : List PV) (k : Nat) (hk : (xt X)[k]? = some (pc, .invokestatic idx, pc')) (E : EvW l Y hh av M (fun v M2 => v = r ∧ M2 = M1)) (hY : MkW Y hh) (hlk : Cond.methodLink (xy X).cls idx (xy Y) ∈ WB) (hsta : Cond.static (xy Y) ∈ WB) (hpd : (parseMethodDescriptor (xy Y).desc).map (fun d => d.parameters.length) = some n) (hn : av.length = n) (hR : Rm X Y) (hcs : cs.1 + (xm Y).cells ≤ (xm X).cells ∧ cs.2 + (xm Y).slots ≤ (xm X).slots) (hst : (st.map pcat).sum ≤ 8) {stk : List PV} (hs : stk = av.reverse ++ st) (cs' : Nat × Nat) (hcs' : (cs.1 + (xm Y).cells, cs.2 + (xm Y).slots) = cs') (g : Gx l X tg cs' pc' L (r.toList ++ st) M1) : Gx l X tg cs pc L stk M := by
  subst hcs'
  intro D ad z p e s m args below meth c H locs ls A C hl hW
  obtain ⟨d, e1⟩ := C.1.at hk
  subst e1
  have hts := C.2.1.2.2.2.2
  have hst2 : (F0 m pc ls (smap ad stk)).stack = (smap ad av).reverse ++ smap ad st := by subst hs; simp [smap]
  have hd := hY.2.2.2.1
  refine go_retX (postY := fun v M2 => v = r ∧ M2 = M1) (xpY := fun _ _ => False) (a := (smap ad av).toArray) C hl hW hcs ?_ (fun _ _ h => by rw [h.1, h.2]; exact g) (fun _ _ h => h.elim)
  have hc : Cond.codeWith (xy Y) (xc Y) (xn Y) (xr Y) hh ∈ xwW Y hh := List.mem_cons_self
  refine vx_runSX (hh := hh) (n := n) (index := idx) C.2.1 (E D ad z H.size) ⟨⟨rfl, rfl, hR.1, hR.2, pay_in hts (gi_ofW hY), hc⟩, hts _ hY.2.2.1, hts _ hY.2.2.2.2, ⟨hd.1, hd.2⟩, fun sig h => ?_, hts _ hlk, hts _ hsta⟩ ⟨preW_blind, fun U hU hWa => ⟨rfl, preW_at C hW hU hWa⟩⟩ rfl (by simpa [smap] using hn) hl.1 hst2 (lv_room (pcat_sum hst)) d hcs
  rw [h] at hpd
  exact (Option.some.inj hpd).symm
/-- a switch over 0, 1, 2 -/
theorem go_switch3 {x : Int32} {o0 o1 o2 dflt : Int} {len : Nat} (t0 t1 t2 td : Nat) (hd : decode (xc X) pc = .ok (.tableswitch dflt 0 2 #[o0, o1, o2], len)) (h0 : (pc : Int) + o0 = (t0 : Int)) (h1 : (pc : Int) + o1 = (t1 : Int)) (h2 : (pc : Int) + o2 = (t2 : Int)) (h3 : (pc : Int) + dflt = (td : Int)) (g0 : x = 0 → Gx l X tg cs t0 L st M) (g1 : x = 1 → Gx l X tg cs t1 L st M) (g2 : x = 2 → Gx l X tg cs t2 L st M) (g3 : ¬ x = 0 → ¬ x = 1 → ¬ x = 2 → Gx l X tg cs td L st M) : Gx l X tg cs pc L (vi x :: st) M := by
  intro D ad z p e s m args below meth c H locs ls A C hl hW
  by_cases e0 : x = 0
  · subst e0
    exact lv_tableIn (rest := smap ad st) C.2.1.1 C.2.1.2.1 hd (by decide) (by decide) (off := o0) rfl h0 (g0 rfl D ad z p e s m args below meth c H locs ls A C hl hW)
  · by_cases e1 : x = 1
    · subst e1
      exact lv_tableIn (rest := smap ad st) C.2.1.1 C.2.1.2.1 hd (by decide) (by decide) (off := o1) rfl h1 (g1 rfl D ad z p e s m args below meth c H locs ls A C hl hW)
    · by_cases e2 : x = 2
      · subst e2
        exact lv_tableIn (rest := smap ad st) C.2.1.1 C.2.1.2.1 hd (by decide) (by decide) (off := o2) rfl h2 (g2 rfl D ad z p e s m args below meth c H locs ls A C hl hW)
      · refine lv_tableOut (rest := smap ad st) C.2.1.1 C.2.1.2.1 hd ?_ h3 (g3 e0 e1 e2 D ad z p e s m args below meth c H locs ls A C hl hW)
        have a0 := lv_neT e0 (a := 0) (by decide)
        have a1 := lv_neT e1 (a := 1) (by decide)
        have a2 := lv_neT e2 (a := 2) (by decide)
        omega
end TH
def xnm (n : Nat) : String := match n with
  | 1 => "java/lang/IllegalArgumentException"
  | 2 => "java/lang/IllegalStateException"
  | _ => "java/util/NoSuchElementException"
