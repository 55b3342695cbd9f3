/-! my own engine: a pure machine over the kit's judgements. A cell has a name (kind, number); a reference is a cell's name; the memory holds ints and longs alone, the shape of the world stands. -/
abbrev PV : Type := Int32 ⊕ (Int64 ⊕ (Nat × Nat))
abbrev Mm : Type := (Nat × Nat → Nat → Int32) × (Nat × Nat → Nat → Int64)
abbrev AD : Type := Nat × Nat → Nat
abbrev Zc : Type := Nat × Nat × Nat
abbrev vi (x : Int32) : PV := Sum.inl x
abbrev vl (x : Int64) : PV := Sum.inr (Sum.inl x)
abbrev vr (k j : Nat) : PV := Sum.inr (Sum.inr (k, j))
def tv (ad : AD) (v : PV) : Value := match v with
  | .inl x => .int x
  | .inr (.inl x) => .long x
  | .inr (.inr c) => .ref (ad c)
def pcat (v : PV) : Nat := match v with
  | .inl _ => 1
  | .inr (.inl _) => 2
  | .inr (.inr _) => 1
theorem tv_cat (ad : AD) (v : PV) : (tv ad v).category = pcat v := by
  rcases v with x | x | x <;> rfl
-- int arrays: 0-6 followers (6: the spare one's), 7 keys, 8 seenWays, 9 freshWays, 10 queue, 11 meetings, 12-15 passages and takenRepeated of the two tables, 16 to, 17 good, 18 size, 19 witness, 20 digit, 21 after, 22 beginnings
def lenI (n : Nat) : Nat := if n < 7 then 32 else if n < 11 then 1024 else if n = 11 then 4 else if n < 16 then 512 else if n = 16 then 48 else if n < 19 then 6 else if n = 19 then 4 else if n < 22 then 9 else 4
-- long arrays: 0 seen, 1 fresh, 2 coming, 3 the law's out
def lenL (n : Nat) : Nat := if n < 3 then 2461 else 1
-- kinds: 0 Automaton, 1 int[], 2 long[], 3 OmegaDesk, 4 Automaton[], 5 Refuter, 6 LassoFinder, 7 WordTable, 8 OmegaDeskModel
def fl (f : Nat → Int32) (c : Nat × Nat) : List PV := match c.1 with
  | 0 => [vi (f 0), vi (f 1), vr 1 c.2]
  | 3 => [vr 4 0, vr 0 6, vr 5 0, vr 6 0]
  | 5 => [vr 1 7, vr 1 8, vr 1 9, vr 1 10, vi (f 4), vi (f 5), vr 1 11]
  | 6 => [vr 7 0, vr 7 1, vi (f 2), vi (f 3), vi (f 4), vi (f 5), vi (f 6)]
  | 7 => [vr 1 (12 + 2 * c.2), vr 1 (13 + 2 * c.2)]
  | _ => [vi (f 0), vr 1 16, vr 1 17, vr 1 18, vi (f 4), vr 1 19, vr 2 0, vr 2 1, vr 2 2, vr 1 20, vr 1 21, vr 1 22]
def cix (k : Nat) : Nat := match k with
  | 0 => 0
  | 3 => 1
  | 5 => 2
  | 6 => 3
  | 7 => 4
  | _ => 5
def smap (ad : AD) (st : List PV) : List Value := st.map (tv ad)
def lmap (ad : AD) (L : List (Nat × PV)) : List (Nat × Value) := L.map (fun q => (q.1, tv ad q.2))
def ent (ad : AD) (z : Zc) (f : Nat → Int32) (g : Nat → Int64) (c : Nat × Nat) : va_E := match c.1 with
  | 1 => .inl (z.1, lenI c.2, .inl f)
  | 2 => .inl (z.2.1, lenL c.2, .inr (.inl g))
  | 4 => .inl (z.2.2, 6, .inr (.inr (.inr (.inr (fun i => some (ad (0, i)))))))
  | k => .inr (cix k, smap ad (fl f c))
def allc : List (Nat × Nat) := [(0, 0), (0, 1), (0, 2), (0, 3), (0, 4), (0, 5), (0, 6), (1, 0), (1, 1), (1, 2), (1, 3), (1, 4), (1, 5), (1, 6), (1, 7), (1, 8), (1, 9), (1, 10), (1, 11), (1, 12), (1, 13), (1, 14), (1, 15), (1, 16), (1, 17), (1, 18), (1, 19), (1, 20), (1, 21), (1, 22), (2, 0), (2, 1), (2, 2), (2, 3), (3, 0), (4, 0), (5, 0), (6, 0), (7, 0), (7, 1), (8, 0)]
def posc (c : Nat × Nat) : Nat := match c.1 with
  | 0 => c.2
  | 1 => 7 + c.2
  | 2 => 30 + c.2
  | 7 => 38 + c.2
  | 8 => 40
  | k => 31 + k
theorem posc_all : ∀ i, i < 41 → (allc[i]?).map posc = some i := by decide
theorem allc_inj {i j : Nat} {c : Nat × Nat} (h1 : allc[i]? = some c) (h2 : allc[j]? = some c) : i = j := by
  have a := posc_all i (List.getElem?_eq_some_iff.mp h1).1
  have b := posc_all j (List.getElem?_eq_some_iff.mp h2).1
  rw [h1] at a
  rw [h2] at b
  exact (Option.some.inj a).symm.trans (Option.some.inj b)
theorem ok0 {j : Nat} (h : j < 7) : (0, j) ∈ allc := by
  rcases (show j = 0 ∨ j = 1 ∨ j = 2 ∨ j = 3 ∨ j = 4 ∨ j = 5 ∨ j = 6 by omega) with rfl | rfl | rfl | rfl | rfl | rfl | rfl <;> decide
theorem ok1 {j : Nat} (h : j < 23) : (1, j) ∈ allc := by
  have hh : ∀ i, i < 23 → (1, i) ∈ allc := by decide
  exact hh j h
theorem ok2 {j : Nat} (h : j < 4) : (2, j) ∈ allc := by
  have hh : ∀ i, i < 4 → (2, i) ∈ allc := by decide
  exact hh j h
theorem ok7 {j : Nat} (h : j < 2) : (7, j) ∈ allc := by
  have hh : ∀ i, i < 2 → (7, i) ∈ allc := by decide
  exact hh j h
def wd (ad : AD) (z : Zc) (M : Mm) : va_W := allc.map (fun c => (ad c, ent ad z (M.1 c) (M.2 c) c))
theorem wd_at {ad : AD} {z : Zc} {M : Mm} {c : Nat × Nat} (h : c ∈ allc) : ∃ q : Nat, (wd ad z M)[q]? = some (ad c, ent ad z (M.1 c) (M.2 c) c) ∧ allc[q]? = some c := by
  obtain ⟨q, hq⟩ := List.getElem?_of_mem h
  exact ⟨q, by simp [wd, hq], hq⟩
theorem wd_set {ad : AD} {z : Zc} {M M' : Mm} {c : Nat × Nat} {q : Nat} (hq : allc[q]? = some c) (h1 : ∀ c', c' ≠ c → M'.1 c' = M.1 c' ∧ M'.2 c' = M.2 c') {e : va_E} (he : e = ent ad z (M'.1 c) (M'.2 c) c) : (wd ad z M).set q (ad c, e) = wd ad z M' := by
  subst he
  apply List.ext_getElem?
  intro i
  by_cases hi : i = q
  · subst hi
    have hl : i < (wd ad z M).length := by
      have := (List.getElem?_eq_some_iff.mp hq).1
      simpa [wd] using this
    rw [List.getElem?_set_self hl]
    simp [wd, hq]
  · rw [List.getElem?_set_ne (Ne.symm hi)]
    simp only [wd, List.getElem?_map]
    cases hc : allc[i]? with
    | none => rfl
    | some c' =>
      have hne : c' ≠ c := by
        intro h
        subst h
        exact hi (allc_inj hc hq)
      obtain ⟨a, b⟩ := h1 c' hne
      show some (ad c', ent ad z (M.1 c') (M.2 c') c') = some (ad c', ent ad z (M'.1 c') (M'.2 c') c')
      rw [a, b]
def uI (M : Mm) (c : Nat × Nat) (k : Nat) (v : Int32) : Mm := (fun c' => if c' = c then upd (M.1 c) k v else M.1 c', M.2)
def uL (M : Mm) (c : Nat × Nat) (k : Nat) (v : Int64) : Mm := (M.1, fun c' => if c' = c then vp_updL (M.2 c) k v else M.2 c')
theorem uI_self (M : Mm) (c : Nat × Nat) (k : Nat) (v : Int32) : (uI M c k v).1 c = upd (M.1 c) k v := if_pos rfl
theorem uI_ne (M : Mm) {c c' : Nat × Nat} (k : Nat) (v : Int32) (h : c' ≠ c) : (uI M c k v).1 c' = M.1 c' := if_neg h
theorem uL_self (M : Mm) (c : Nat × Nat) (k : Nat) (v : Int64) : (uL M c k v).2 c = vp_updL (M.2 c) k v := if_pos rfl
theorem uL_ne (M : Mm) {c c' : Nat × Nat} (k : Nat) (v : Int64) (h : c' ≠ c) : (uL M c k v).2 c' = M.2 c' := if_neg h
abbrev tz (z : Zc) : List (ClassId × FieldType) := [(z.1, .int), (z.2.1, .long), (z.2.2, .object "OmegaDesk$Automaton")]
/-! instruction lengths, a method's table, a method -/
def ilen (i : Jvm.ClassFile.Instr) : Nat := match i with
  | .aload _ | .iload _ | .lload _ | .istore _ | .lstore _ | .astore _ | .bipush _ | .ldc _ | .newarray _ => 2
  | .sipush _ | .ldc_w _ | .ldc2_w _ | .getfield _ | .putfield _ | .getstatic _ | .invokevirtual _ | .invokespecial _ | .invokestatic _ | .new _ | .anewarray _ | .if_icmp _ _ | .ifCond _ _ | .goto _ | .iinc _ _ | .checkcast _ | .instanceof _ | .ifnull _ | .ifnonnull _ | .if_acmp _ _ => 3
  | _ => 1
abbrev Tb : Type := List (Nat × Jvm.ClassFile.Instr × Nat)
def tbq (cc : ByteArray) (q : Nat × Jvm.ClassFile.Instr × Nat) : Bool := match decode cc q.1 with
  | .ok (i, n) => decide (i = q.2.1) && (decide (n = ilen q.2.1) && decide (q.2.2 = q.1 + ilen q.2.1))
  | .error _ => false
def TBk (cc : ByteArray) (tb : Tb) : Prop := tb.all (tbq cc) = true
theorem TBk.at {cc : ByteArray} {tb : Tb} (h : TBk cc tb) {k pc pc' : Nat} {i : Jvm.ClassFile.Instr} (hk : tb[k]? = some (pc, i, pc')) : decode cc pc = .ok (i, ilen i) ∧ pc' = pc + ilen i := by
  have h1 : tbq cc (pc, i, pc') = true := List.all_eq_true.mp h _ (List.mem_of_getElem? hk)
  unfold tbq at h1
  cases hd : decode cc pc with
  | error e => simp only [hd] at h1; cases h1
  | ok r =>
    obtain ⟨i', n⟩ := r
    simp only [hd, Bool.and_eq_true, decide_eq_true_eq] at h1
    obtain ⟨rfl, rfl, e3⟩ := h1
    exact ⟨rfl, e3⟩
abbrev MX : Type := MethodName × ByteArray × Nat × Option FieldType × Room × Tb
abbrev xy (X : MX) : MethodName := X.1
abbrev xc (X : MX) : ByteArray := X.2.1
abbrev xn (X : MX) : Nat := X.2.2.1
abbrev xr (X : MX) : Option FieldType := X.2.2.2.1
abbrev xm (X : MX) : Room := X.2.2.2.2.1
abbrev xt (X : MX) : Tb := X.2.2.2.2.2
def xw (X : MX) : List Cond := Cond.code (xy X) (xc X) (xn X) (xr X) :: WB
/-- what is known of a method once for all -/
def Mk (X : MX) : Prop := TBk (xc X) (xt X) ∧ plainName (xy X).cls = true ∧ Cond.code (xy X) (xc X) (xn X) (xr X) ∈ WB ∧ ((xy X).cls ≠ "java/lang/invoke/MethodHandle" ∧ (xy X).cls ≠ "java/lang/invoke/VarHandle") ∧ (xm X).cells = 0 ∧ (xm X).slots = 0 ∧ Cond.initialized (xy X).cls ∈ WB
theorem gi_of {Y : MX} (hY : Mk Y) : GoodIn WB (xw Y) := by
  intro w hw
  rcases List.mem_cons.mp hw with rfl | hw
  · exact ⟨hY.2.2.1, good_of_word (List.mem_filter.mp hY.2.2.1).2⟩
  · exact ⟨hw, good_of_word (List.mem_filter.mp hw).2⟩
/-- nest mates' links: they stand over the warming of the tables -/
def nestW (w : Cond) : Bool := match w with
  | .fieldLinkNest .. => true
  | .methodLinkNest .. => true
  | .castable .. => true
  | .declares .. => true
  | _ => false
theorem NW_nest : ∀ w ∈ NW, nestW w = true := by
  intro w hw
  have h : NW.all nestW = true := by decide +kernel
  exact List.all_eq_true.mp h w hw
theorem nw_cast {a b : String} {s U : State} (hW : s.WarmedH U.vm) (hZ : va_Nw (.castable a b) s) : va_Nw (.castable a b) U := va_tabs rfl (rfl : (s.setVm U.vm).vm = U.vm) (by rw [Cond.castable_setVm hW.alike]; exact hZ)
theorem nw_warm {s U : State} (hW : s.WarmedH U.vm) (h : ∀ w ∈ NW, va_Nw w s) : ∀ w ∈ NW, va_Nw w U := by
  intro w hw
  have h1 := h w hw
  have h2 := NW_nest w hw
  cases w <;> first | exact va_Nw.warmF hW h1 | exact va_Nw.warmM hW h1 | exact nw_cast hW h1 | exact va_Nw.warmD hW h1 | (exact absurd h2 (by simp [nestW]))
theorem nw_same {s U : State} (hv : s.vm = U.vm) (h : ∀ w ∈ NW, va_Nw w s) : ∀ w ∈ NW, va_Nw w U := by
  intro w hw
  have h1 := h w hw
  have h2 := NW_nest w hw
  cases w <;> first | exact va_Nw.same rfl hv h1 | (exact absurd h2 (by simp [nestW]))
/-- what the throws need: no traces kept, two statics of Throwable, the texts -/
def Exw (l : Launch) (A : Nat → Prop) (U : State) : Prop := l.stackTraces = false ∧ vx_Zq Bundle.tN "UNASSIGNED_STACK" Bundle.steD A U U.heap ∧ vx_Zq Bundle.tN "SUPPRESSED_SENTINEL" Bundle.listD A U U.heap ∧ (∀ q ∈ STR, ∃ sa, vk_R q.1 q.2.1 q.2.2 sa U) ∧ va_Nc "java/lang/IllegalStateException" "java/lang/IllegalArgumentException" U ∧ va_Nc "java/util/NoSuchElementException" "java/lang/IllegalArgumentException" U
abbrev Tgt : Type := (va_G → AD → Zc → State → Array Value → List Frame → (Nat → Prop) → State → Prop) × (AD → State → (Nat → Prop) → Code → Prop)
def gQ (D : va_G) (ad : AD) (z : Zc) (post : Option PV → Mm → Prop) (A : Nat → Prop) : Array Value → State → Outcome → State → Prop := fun _ st oc t =>
  (∃ (r : Option PV) (M' : Mm), oc = .returned (r.map (tv ad)) ∧ post r M' ∧ va_P D classes (wd ad z M') t.heap ∧ va_K D classes (tz z) t ∧ va_D A (wd ad z M')) ∧ va_F A st t
def PreW (l : Launch) (D : va_G) (ad : AD) (z : Zc) (M : Mm) (sz : Nat) (U : State) : Prop := U.heap.size = sz ∧ Exw l (va_A (wd ad z M) sz) U ∧ (∀ w ∈ NW, va_Nw w U) ∧ va_P D classes (wd ad z M) U.heap ∧ va_K D classes (tz z) U ∧ va_D (fun _ => True) (wd ad z M)
/-- the contract of a method of the machine -/
def Ev (l : Launch) (X : MX) (av : List PV) (M : Mm) (post : Option PV → Mm → Prop) : Prop :=
  ∀ (D : va_G) (ad : AD) (z : Zc) (sz : Nat), Met l (xy X) (xw X) (xm X) (va_Pc (smap ad av) (PreW l D ad z M sz)) (gQ D ad z post (va_A (wd ad z M) sz)) 0 0 (va_A (wd ad z M) sz)
def Cx (l : Launch) (X : MX) (tg : Tgt) (cs : Nat × Nat) (D : va_G) (ad : AD) (z : Zc) (p : Program) (s : State) (m : MethodId) (args : Array Value) (meth : Method) (c : Code) (A : Nat → Prop) : Prop :=
  TBk (xc X) (xt X) ∧ CallFix p m c (xc X) (xn X) s args WB (xy X).cls ∧ meth.sig.returnType = xr X ∧ meth.locks = false ∧ (∀ w ∈ NW, va_Nw w s) ∧ va_K D classes (tz z) s ∧ (∀ q, s.heap.size ≤ q → A q) ∧ Exw l A s ∧ (cs.1 ≤ (xm X).cells ∧ cs.2 ≤ (xm X).slots) ∧ tg.2 ad s A c
def Hw (D : va_G) (ad : AD) (z : Zc) (s : State) (A : Nat → Prop) (M : Mm) (H : Heap) (locs : List Loc) : Prop := va_P D classes (wd ad z M) H ∧ va_D A (wd ad z M) ∧ va_S A s.heap H locs
/-- the machine goes on from here to the target -/
def Gx (l : Launch) (X : MX) (tg : Tgt) (cs : Nat × Nat) (pc : Nat) (L : List (Nat × PV)) (st : List PV) (M : Mm) : Prop :=
  ∀ (D : va_G) (ad : AD) (z : Zc) (p : Program) (e : Env) (s : State) (m : MethodId) (args : Array Value) (below : List Frame) (meth : Method) (c : Code) (H : Heap) (locs : List Loc) (ls : Array Slot) (A : Nat → Prop),
    Cx l X tg cs D ad z p s m args meth c A → lv_has ls (xn X) (lmap ad L) → Hw D ad z s A M H locs → W p l e (xm X) s m args below meth c H locs cs.1 cs.2 (tg.1 D ad z s args below A) (F0 m pc ls (smap ad st))
def nT (post : Option PV → Mm → Prop) : Tgt := (fun D ad z s args below A => MQ below (gQ D ad z post A) args s 0 0 A, fun _ _ _ _ => True)
/-- .. to a return with 'post', nothing made -/
abbrev Go (l : Launch) (X : MX) (post : Option PV → Mm → Prop) (pc : Nat) (L : List (Nat × PV)) (st : List PV) (M : Mm) : Prop := Gx l X (nT post) (0, 0) pc L st M
theorem Ev.of {l : Launch} {X : MX} {av : List PV} {M : Mm} {post : Option PV → Mm → Prop} (hX : Mk X) (L : List (Nat × PV)) (hL : ∀ ad : AD, lv_args 0 (smap ad av) = lmap ad L) (hn : ∀ ad : AD, (lg_sl (smap ad av)).length ≤ xn X) (g : Go l X post 0 L [] M) : Ev l X av M post := by
  intro D ad z sz
  refine Met.ofW (cc := xc X) (maxL := xn X) (ret := xr X) hX.2.1 rfl ?_
  intro p e s m args below meth c s₁ B hml hv
  obtain ⟨rfl, hsz, hE, hN, hP, hK, hD0⟩ := hv
  subst hsz
  have hts := atoms_spec (ws := xw X) B.pre
  have hl := lv_entry (smap ad av) (n := xn X) (hn ad)
  rw [lg_entry_eq]
  generalize (lg_sl (smap ad av) ++ List.replicate (xn X - (lg_sl (smap ad av)).length) Slot.unset).toArray = ls at hl ⊢
  rw [hL ad] at hl
  exact g D ad z p e s m _ below meth c s.heap [] ls (va_A (wd ad z M) s.heap.size) ⟨hX.1, ⟨B.exec, B.bytes, hml, findClass_of_methodNamed B.named, fun w hw => hts w (List.mem_cons_of_mem _ hw)⟩, B.returns, B.notSynchronized, hN, hK, fun q h => Or.inr h, hE, ⟨Nat.zero_le _, Nat.zero_le _⟩, trivial⟩ hl ⟨hP, hD0.self, va_S.rf⟩
section EN
variable {l : Launch} {X : MX} {tg : Tgt} {cs : Nat × Nat} {post : Option PV → Mm → Prop} {pc pc' : Nat} {L : List (Nat × PV)} {st : List PV} {M : Mm}
theorem Go.mono {post' : Option PV → Mm → Prop} (h : ∀ r M', post' r M' → post r M') (g : Go l X post' pc L st M) : Go l X post pc L st M := by
  intro D ad z p e s m args below meth c H locs ls A C hl hW T hT S
  obtain ⟨t, a, o, b1, b2, b3, b4⟩ := g D ad z p e s m args below meth c H locs ls A C hl hW T hT S
  obtain ⟨⟨r, M', c1, c2, c3⟩, c4⟩ := b3
  exact ⟨t, a, o, b1, b2, ⟨⟨r, M', c1, h r M' c2, c3⟩, c4⟩, b4⟩
/-- fewer locals, or in another order: by their places -/
theorem go_sub (ks : List Nat) {L' : List (Nat × PV)} (h : ks.filterMap (fun k => L[k]?) = L') (g : Gx l X tg cs pc L' st M) : Gx l X tg cs pc L st M := by
  intro D ad z p e s m args below meth c H locs ls A C hl hW
  refine g D ad z p e s m args below meth c H locs ls A C ⟨hl.1, hl.2.1, fun q hq => hl.2.2 q ?_⟩ hW
  subst h
  obtain ⟨q0, h0, rfl⟩ := List.mem_map.mp hq
  obtain ⟨k, -, hk⟩ := List.mem_filterMap.mp h0
  exact List.mem_map.mpr ⟨q0, List.mem_of_getElem? hk, rfl⟩
theorem go_iadd {x y : Int32} (k : Nat) (hk : (xt X)[k]? = some (pc, .iadd, pc')) (g : Gx l X tg cs pc' L (vi (x + y) :: st) M) : Gx l X tg cs pc L (vi y :: vi x :: st) M := by
  intro D ad z p e s m args below meth c H locs ls A C hl hW
  obtain ⟨d, e1⟩ := C.1.at hk
  subst e1
  exact lv_iadd (x := x) (y := y) (rest := smap ad st) C.2.1.1 C.2.1.2.1 d (g D ad z p e s m args below meth c H locs ls A C hl hW)
theorem go_isub {x y : Int32} (k : Nat) (hk : (xt X)[k]? = some (pc, .isub, pc')) (g : Gx l X tg cs pc' L (vi (x - y) :: st) M) : Gx l X tg cs pc L (vi y :: vi x :: st) M := by
  intro D ad z p e s m args below meth c H locs ls A C hl hW
  obtain ⟨d, e1⟩ := C.1.at hk
  subst e1
  exact lv_isub (x := x) (y := y) (rest := smap ad st) C.2.1.1 C.2.1.2.1 d (g D ad z p e s m args below meth c H locs ls A C hl hW)
theorem go_imul {x y : Int32} (k : Nat) (hk : (xt X)[k]? = some (pc, .imul, pc')) (g : Gx l X tg cs pc' L (vi (x * y) :: st) M) : Gx l X tg cs pc L (vi y :: vi x :: st) M := by
  intro D ad z p e s m args below meth c H locs ls A C hl hW
  obtain ⟨d, e1⟩ := C.1.at hk
  subst e1
  exact lv_imul (x := x) (y := y) (rest := smap ad st) C.2.1.1 C.2.1.2.1 d (g D ad z p e s m args below meth c H locs ls A C hl hW)
theorem go_iand {x y : Int32} (k : Nat) (hk : (xt X)[k]? = some (pc, .iand, pc')) (g : Gx l X tg cs pc' L (vi (x &&& y) :: st) M) : Gx l X tg cs pc L (vi y :: vi x :: st) M := by
  intro D ad z p e s m args below meth c H locs ls A C hl hW
  obtain ⟨d, e1⟩ := C.1.at hk
  subst e1
  exact lv_iand (x := x) (y := y) (rest := smap ad st) C.2.1.1 C.2.1.2.1 d (g D ad z p e s m args below meth c H locs ls A C hl hW)
theorem go_ior {x y : Int32} (k : Nat) (hk : (xt X)[k]? = some (pc, .ior, pc')) (g : Gx l X tg cs pc' L (vi (x ||| y) :: st) M) : Gx l X tg cs pc L (vi y :: vi x :: st) M := by
  intro D ad z p e s m args below meth c H locs ls A C hl hW
  obtain ⟨d, e1⟩ := C.1.at hk
  subst e1
  exact lv_ior (x := x) (y := y) (rest := smap ad st) C.2.1.1 C.2.1.2.1 d (g D ad z p e s m args below meth c H locs ls A C hl hW)
theorem go_ixor {x y : Int32} (k : Nat) (hk : (xt X)[k]? = some (pc, .ixor, pc')) (g : Gx l X tg cs pc' L (vi (x ^^^ y) :: st) M) : Gx l X tg cs pc L (vi y :: vi x :: st) M := by
  intro D ad z p e s m args below meth c H locs ls A C hl hW
  obtain ⟨d, e1⟩ := C.1.at hk
  subst e1
  exact lv_ixor (x := x) (y := y) (rest := smap ad st) C.2.1.1 C.2.1.2.1 d (g D ad z p e s m args below meth c H locs ls A C hl hW)
theorem go_ishl {x y : Int32} (k : Nat) (hk : (xt X)[k]? = some (pc, .ishl, pc')) (g : Gx l X tg cs pc' L (vi (x <<< (y &&& 31)) :: st) M) : Gx l X tg cs pc L (vi y :: vi x :: st) M := by
  intro D ad z p e s m args below meth c H locs ls A C hl hW
  obtain ⟨d, e1⟩ := C.1.at hk
  subst e1
  exact lv_ishl (x := x) (y := y) (rest := smap ad st) C.2.1.1 C.2.1.2.1 d (g D ad z p e s m args below meth c H locs ls A C hl hW)
theorem go_ishr {x y : Int32} (k : Nat) (hk : (xt X)[k]? = some (pc, .ishr, pc')) (g : Gx l X tg cs pc' L (vi (x >>> (y &&& 31)) :: st) M) : Gx l X tg cs pc L (vi y :: vi x :: st) M := by
  intro D ad z p e s m args below meth c H locs ls A C hl hW
  obtain ⟨d, e1⟩ := C.1.at hk
  subst e1
  exact lv_ishr (x := x) (y := y) (rest := smap ad st) C.2.1.1 C.2.1.2.1 d (g D ad z p e s m args below meth c H locs ls A C hl hW)
theorem go_iushr {x y : Int32} (k : Nat) (hk : (xt X)[k]? = some (pc, .iushr, pc')) (g : Gx l X tg cs pc' L (vi ((x.toUInt32 >>> (y.toUInt32 &&& Int32.toUInt32 31)).toInt32) :: st) M) : Gx l X tg cs pc L (vi y :: vi x :: st) M := by
  intro D ad z p e s m args below meth c H locs ls A C hl hW
  obtain ⟨d, e1⟩ := C.1.at hk
  subst e1
  exact lv_iushr (x := x) (y := y) (rest := smap ad st) C.2.1.1 C.2.1.2.1 d rfl (g D ad z p e s m args below meth c H locs ls A C hl hW)
theorem go_idiv {x y : Int32} (k : Nat) (hk : (xt X)[k]? = some (pc, .idiv, pc')) (hne : ¬ y = 0) (g : Gx l X tg cs pc' L (vi (x / y) :: st) M) : Gx l X tg cs pc L (vi y :: vi x :: st) M := by
  intro D ad z p e s m args below meth c H locs ls A C hl hW
  obtain ⟨d, e1⟩ := C.1.at hk
  subst e1
  exact lv_idiv (x := x) (y := y) (rest := smap ad st) C.2.1.1 C.2.1.2.1 d hne (g D ad z p e s m args below meth c H locs ls A C hl hW)
theorem go_irem {x y : Int32} (k : Nat) (hk : (xt X)[k]? = some (pc, .irem, pc')) (hne : ¬ y = 0) (g : Gx l X tg cs pc' L (vi (x - x / y * y) :: st) M) : Gx l X tg cs pc L (vi y :: vi x :: st) M := by
  intro D ad z p e s m args below meth c H locs ls A C hl hW
  obtain ⟨d, e1⟩ := C.1.at hk
  subst e1
  exact lv_irem (x := x) (y := y) (rest := smap ad st) C.2.1.1 C.2.1.2.1 d hne (g D ad z p e s m args below meth c H locs ls A C hl hW)
theorem go_ineg {x : Int32} (k : Nat) (hk : (xt X)[k]? = some (pc, .ineg, pc')) (g : Gx l X tg cs pc' L (vi (-x) :: st) M) : Gx l X tg cs pc L (vi x :: st) M := by
  intro D ad z p e s m args below meth c H locs ls A C hl hW
  obtain ⟨d, e1⟩ := C.1.at hk
  subst e1
  exact lv_ineg (x := x) (rest := smap ad st) C.2.1.1 C.2.1.2.1 d (g D ad z p e s m args below meth c H locs ls A C hl hW)
theorem go_ladd {x y : Int64} (k : Nat) (hk : (xt X)[k]? = some (pc, .ladd, pc')) (g : Gx l X tg cs pc' L (vl (x + y) :: st) M) : Gx l X tg cs pc L (vl y :: vl x :: st) M := by
  intro D ad z p e s m args below meth c H locs ls A C hl hW
  obtain ⟨d, e1⟩ := C.1.at hk
  subst e1
  exact lv_ladd (x := x) (y := y) (rest := smap ad st) C.2.1.1 C.2.1.2.1 d (g D ad z p e s m args below meth c H locs ls A C hl hW)
theorem go_lsub {x y : Int64} (k : Nat) (hk : (xt X)[k]? = some (pc, .lsub, pc')) (g : Gx l X tg cs pc' L (vl (x - y) :: st) M) : Gx l X tg cs pc L (vl y :: vl x :: st) M := by
  intro D ad z p e s m args below meth c H locs ls A C hl hW
  obtain ⟨d, e1⟩ := C.1.at hk
  subst e1
  exact lv_lsub (x := x) (y := y) (rest := smap ad st) C.2.1.1 C.2.1.2.1 d (g D ad z p e s m args below meth c H locs ls A C hl hW)
theorem go_lmul {x y : Int64} (k : Nat) (hk : (xt X)[k]? = some (pc, .lmul, pc')) (g : Gx l X tg cs pc' L (vl (x * y) :: st) M) : Gx l X tg cs pc L (vl y :: vl x :: st) M := by
  intro D ad z p e s m args below meth c H locs ls A C hl hW
  obtain ⟨d, e1⟩ := C.1.at hk
  subst e1
  exact lv_lmul (x := x) (y := y) (rest := smap ad st) C.2.1.1 C.2.1.2.1 d (g D ad z p e s m args below meth c H locs ls A C hl hW)
theorem go_land {x y : Int64} (k : Nat) (hk : (xt X)[k]? = some (pc, .land, pc')) (g : Gx l X tg cs pc' L (vl (x &&& y) :: st) M) : Gx l X tg cs pc L (vl y :: vl x :: st) M := by
  intro D ad z p e s m args below meth c H locs ls A C hl hW
  obtain ⟨d, e1⟩ := C.1.at hk
  subst e1
  exact lv_land (x := x) (y := y) (rest := smap ad st) C.2.1.1 C.2.1.2.1 d (g D ad z p e s m args below meth c H locs ls A C hl hW)
theorem go_lor {x y : Int64} (k : Nat) (hk : (xt X)[k]? = some (pc, .lor, pc')) (g : Gx l X tg cs pc' L (vl (x ||| y) :: st) M) : Gx l X tg cs pc L (vl y :: vl x :: st) M := by
  intro D ad z p e s m args below meth c H locs ls A C hl hW
  obtain ⟨d, e1⟩ := C.1.at hk
  subst e1
  exact lv_lor (x := x) (y := y) (rest := smap ad st) C.2.1.1 C.2.1.2.1 d (g D ad z p e s m args below meth c H locs ls A C hl hW)
theorem go_lxor {x y : Int64} (k : Nat) (hk : (xt X)[k]? = some (pc, .lxor, pc')) (g : Gx l X tg cs pc' L (vl (x ^^^ y) :: st) M) : Gx l X tg cs pc L (vl y :: vl x :: st) M := by
  intro D ad z p e s m args below meth c H locs ls A C hl hW
  obtain ⟨d, e1⟩ := C.1.at hk
  subst e1
  exact lv_lxor (x := x) (y := y) (rest := smap ad st) C.2.1.1 C.2.1.2.1 d (g D ad z p e s m args below meth c H locs ls A C hl hW)
theorem go_lushr {x : Int64} {y : Int32} (k : Nat) (hk : (xt X)[k]? = some (pc, .lushr, pc')) (g : Gx l X tg cs pc' L (vl ((x.toUInt64 >>> (y.toInt64.toUInt64 &&& Int64.toUInt64 63)).toInt64) :: st) M) : Gx l X tg cs pc L (vi y :: vl x :: st) M := by
  intro D ad z p e s m args below meth c H locs ls A C hl hW
  obtain ⟨d, e1⟩ := C.1.at hk
  subst e1
  exact lv_lushr (x := x) (y := y) (rest := smap ad st) C.2.1.1 C.2.1.2.1 d rfl (g D ad z p e s m args below meth c H locs ls A C hl hW)
theorem go_lshl {x : Int64} {y : Int32} (k : Nat) (hk : (xt X)[k]? = some (pc, .lshl, pc')) (g : Gx l X tg cs pc' L (vl (x <<< (y.toInt64 &&& 63)) :: st) M) : Gx l X tg cs pc L (vi y :: vl x :: st) M := by
  intro D ad z p e s m args below meth c H locs ls A C hl hW
  obtain ⟨d, e1⟩ := C.1.at hk
  subst e1
  exact lv_lshl (x := x) (y := y) (rest := smap ad st) C.2.1.1 C.2.1.2.1 d rfl (g D ad z p e s m args below meth c H locs ls A C hl hW)
theorem go_lshr {x : Int64} {y : Int32} (k : Nat) (hk : (xt X)[k]? = some (pc, .lshr, pc')) (g : Gx l X tg cs pc' L (vl (x >>> (y.toInt64 &&& 63)) :: st) M) : Gx l X tg cs pc L (vi y :: vl x :: st) M := by
  intro D ad z p e s m args below meth c H locs ls A C hl hW
  obtain ⟨d, e1⟩ := C.1.at hk
  subst e1
  exact lv_lshr (x := x) (y := y) (rest := smap ad st) C.2.1.1 C.2.1.2.1 d rfl (g D ad z p e s m args below meth c H locs ls A C hl hW)
theorem go_i2l {x : Int32} (k : Nat) (hk : (xt X)[k]? = some (pc, .i2l, pc')) (g : Gx l X tg cs pc' L (vl x.toInt64 :: st) M) : Gx l X tg cs pc L (vi x :: st) M := by
  intro D ad z p e s m args below meth c H locs ls A C hl hW
  obtain ⟨d, e1⟩ := C.1.at hk
  subst e1
  exact lv_i2l (x := x) (rest := smap ad st) C.2.1.1 C.2.1.2.1 d rfl (g D ad z p e s m args below meth c H locs ls A C hl hW)
theorem go_l2i {x : Int64} (k : Nat) (hk : (xt X)[k]? = some (pc, .l2i, pc')) (g : Gx l X tg cs pc' L (vi x.toInt32 :: st) M) : Gx l X tg cs pc L (vl x :: st) M := by
  intro D ad z p e s m args below meth c H locs ls A C hl hW
  obtain ⟨d, e1⟩ := C.1.at hk
  subst e1
  exact lv_l2i (x := x) (rest := smap ad st) C.2.1.1 C.2.1.2.1 d rfl (g D ad z p e s m args below meth c H locs ls A C hl hW)
theorem go_lcmp {x y : Int64} (k : Nat) (hk : (xt X)[k]? = some (pc, .lcmp, pc')) (g : Gx l X tg cs pc' L (vi (lg_cmp x y) :: st) M) : Gx l X tg cs pc L (vl y :: vl x :: st) M := by
  intro D ad z p e s m args below meth c H locs ls A C hl hW
  obtain ⟨d, e1⟩ := C.1.at hk
  subst e1
  exact W.lcmp (x := x) (y := y) (rest := smap ad st) C.2.1.1 C.2.1.2.1 d (g D ad z p e s m args below meth c H locs ls A C hl hW)
theorem go_iconst {n : Int} (v : Int32) (k : Nat) (hk : (xt X)[k]? = some (pc, .iconst n, pc')) (hv : Int32.ofInt n = v) (g : Gx l X tg cs pc' L (vi v :: st) M) : Gx l X tg cs pc L (st) M := by
  intro D ad z p e s m args below meth c H locs ls A C hl hW
  obtain ⟨d, e1⟩ := C.1.at hk
  subst e1
  exact lv_iconst (rest := smap ad st) C.2.1.1 C.2.1.2.1 d hv (g D ad z p e s m args below meth c H locs ls A C hl hW)
theorem go_bipush {n : Int} (v : Int32) (k : Nat) (hk : (xt X)[k]? = some (pc, .bipush n, pc')) (hv : (Int8.ofInt n).toInt32 = v) (g : Gx l X tg cs pc' L (vi v :: st) M) : Gx l X tg cs pc L (st) M := by
  intro D ad z p e s m args below meth c H locs ls A C hl hW
  obtain ⟨d, e1⟩ := C.1.at hk
  subst e1
  exact lv_bipush (rest := smap ad st) C.2.1.1 C.2.1.2.1 d hv (g D ad z p e s m args below meth c H locs ls A C hl hW)
theorem go_sipush {n : Int} (v : Int32) (k : Nat) (hk : (xt X)[k]? = some (pc, .sipush n, pc')) (hv : (Int16.ofInt n).toInt32 = v) (g : Gx l X tg cs pc' L (vi v :: st) M) : Gx l X tg cs pc L (st) M := by
  intro D ad z p e s m args below meth c H locs ls A C hl hW
  obtain ⟨d, e1⟩ := C.1.at hk
  subst e1
  exact lv_sipush (rest := smap ad st) C.2.1.1 C.2.1.2.1 d hv (g D ad z p e s m args below meth c H locs ls A C hl hW)
theorem go_lconst {n : Fin 2} (v : Int64) (k : Nat) (hk : (xt X)[k]? = some (pc, .lconst n, pc')) (hv : Int64.ofNat (n : Nat) = v) (g : Gx l X tg cs pc' L (vl v :: st) M) : Gx l X tg cs pc L (st) M := by
  intro D ad z p e s m args below meth c H locs ls A C hl hW
  obtain ⟨d, e1⟩ := C.1.at hk
  subst e1
  exact lv_lconst (rest := smap ad st) C.2.1.1 C.2.1.2.1 d hv (g D ad z p e s m args below meth c H locs ls A C hl hW)
theorem go_ldc {n : Nat} (v : Int32) (k : Nat) (hk : (xt X)[k]? = some (pc, .ldc n, pc')) (hv : Cond.constant (xy X).cls n v ∈ WB) (g : Gx l X tg cs pc' L (vi v :: st) M) : Gx l X tg cs pc L (st) M := by
  intro D ad z p e s m args below meth c H locs ls A C hl hW
  obtain ⟨d, e1⟩ := C.1.at hk
  subst e1
  exact lv_ldc (rest := smap ad st) C.2.1.1 C.2.1.2.1 C.2.1.2.2.2.1 (C.2.1.2.2.2.2 _ hv) d (g D ad z p e s m args below meth c H locs ls A C hl hW)
theorem go_ldcw {n : Nat} (v : Int32) (k : Nat) (hk : (xt X)[k]? = some (pc, .ldc_w n, pc')) (hv : Cond.constant (xy X).cls n v ∈ WB) (g : Gx l X tg cs pc' L (vi v :: st) M) : Gx l X tg cs pc L (st) M := by
  intro D ad z p e s m args below meth c H locs ls A C hl hW
  obtain ⟨d, e1⟩ := C.1.at hk
  subst e1
  exact lv_ldcw (rest := smap ad st) C.2.1.1 C.2.1.2.1 C.2.1.2.2.2.1 (C.2.1.2.2.2.2 _ hv) d (g D ad z p e s m args below meth c H locs ls A C hl hW)
theorem go_ldc2 {n : Nat} (v : Int64) (k : Nat) (hk : (xt X)[k]? = some (pc, .ldc2_w n, pc')) (hv : Cond.constantLong (xy X).cls n v ∈ WB) (g : Gx l X tg cs pc' L (vl v :: st) M) : Gx l X tg cs pc L (st) M := by
  intro D ad z p e s m args below meth c H locs ls A C hl hW
  obtain ⟨d, e1⟩ := C.1.at hk
  subst e1
  exact lv_ldc2 (rest := smap ad st) C.2.1.1 C.2.1.2.1 C.2.1.2.2.2.1 (C.2.1.2.2.2.2 _ hv) d (g D ad z p e s m args below meth c H locs ls A C hl hW)
theorem lm_at {ad : AD} {ls : Array Slot} {n j i : Nat} {v : PV} (hl : lv_has ls n (lmap ad L)) (hj : L[j]? = some (i, v)) : ls[i]? = some (.val (tv ad v)) := lv_at hl j (by simp [lmap, hj])
theorem go_iload_n {n : Fin 4} {i : Nat} {x : Int32} (k : Nat) (hk : (xt X)[k]? = some (pc, .iload_n n, pc')) (j : Nat) (hj : L[j]? = some (i, vi x)) (hi : (n : Nat) = i) (g : Gx l X tg cs pc' L (vi x :: st) M) : Gx l X tg cs pc L (st) M := by
  intro D ad z p e s m args below meth c H locs ls A C hl hW
  obtain ⟨d, e1⟩ := C.1.at hk
  subst e1
  exact lv_iload_n (rest := smap ad st) C.2.1.1 C.2.1.2.1 d hi (lm_at hl hj) (g D ad z p e s m args below meth c H locs ls A C hl hW)
theorem go_iload {i : Nat} {x : Int32} (k : Nat) (hk : (xt X)[k]? = some (pc, .iload i, pc')) (j : Nat) (hj : L[j]? = some (i, vi x)) (g : Gx l X tg cs pc' L (vi x :: st) M) : Gx l X tg cs pc L (st) M := by
  intro D ad z p e s m args below meth c H locs ls A C hl hW
  obtain ⟨d, e1⟩ := C.1.at hk
  subst e1
  exact lv_iload (rest := smap ad st) C.2.1.1 C.2.1.2.1 d (lm_at hl hj) (g D ad z p e s m args below meth c H locs ls A C hl hW)
theorem go_lload_n {n : Fin 4} {i : Nat} {x : Int64} (k : Nat) (hk : (xt X)[k]? = some (pc, .lload_n n, pc')) (j : Nat) (hj : L[j]? = some (i, vl x)) (hi : (n : Nat) = i) (g : Gx l X tg cs pc' L (vl x :: st) M) : Gx l X tg cs pc L (st) M := by
  intro D ad z p e s m args below meth c H locs ls A C hl hW
  obtain ⟨d, e1⟩ := C.1.at hk
  subst e1
  exact lv_lload_n (rest := smap ad st) C.2.1.1 C.2.1.2.1 d hi (lm_at hl hj) (g D ad z p e s m args below meth c H locs ls A C hl hW)
theorem go_lload {i : Nat} {x : Int64} (k : Nat) (hk : (xt X)[k]? = some (pc, .lload i, pc')) (j : Nat) (hj : L[j]? = some (i, vl x)) (g : Gx l X tg cs pc' L (vl x :: st) M) : Gx l X tg cs pc L (st) M := by
  intro D ad z p e s m args below meth c H locs ls A C hl hW
  obtain ⟨d, e1⟩ := C.1.at hk
  subst e1
  exact lv_lload (rest := smap ad st) C.2.1.1 C.2.1.2.1 d (lm_at hl hj) (g D ad z p e s m args below meth c H locs ls A C hl hW)
theorem go_aload_n {n : Fin 4} {i a b : Nat} (k : Nat) (hk : (xt X)[k]? = some (pc, .aload_n n, pc')) (j : Nat) (hj : L[j]? = some (i, vr a b)) (hi : (n : Nat) = i) (g : Gx l X tg cs pc' L (vr a b :: st) M) : Gx l X tg cs pc L (st) M := by
  intro D ad z p e s m args below meth c H locs ls A C hl hW
  obtain ⟨d, e1⟩ := C.1.at hk
  subst e1
  exact lv_aload_n (rest := smap ad st) C.2.1.1 C.2.1.2.1 d hi (lm_at hl hj) (g D ad z p e s m args below meth c H locs ls A C hl hW)
theorem go_aload {i a b : Nat} (k : Nat) (hk : (xt X)[k]? = some (pc, .aload i, pc')) (j : Nat) (hj : L[j]? = some (i, vr a b)) (g : Gx l X tg cs pc' L (vr a b :: st) M) : Gx l X tg cs pc L (st) M := by
  intro D ad z p e s m args below meth c H locs ls A C hl hW
  obtain ⟨d, e1⟩ := C.1.at hk
  subst e1
  exact lv_aload (rest := smap ad st) C.2.1.1 C.2.1.2.1 d (lm_at hl hj) (g D ad z p e s m args below meth c H locs ls A C hl hW)
/-- a local is set: in its place, or behind; a long takes two places -/
def lclob (i w : Nat) (q : Nat × PV) : Bool := !(q.1 == i) && (!(w == 2 && q.1 == i + 1) && !(q.1 + 1 == i && pcat q.2 == 2))
def lset : List (Nat × PV) → Nat → PV → List (Nat × PV)
  | [], i, v => [(i, v)]
  | q :: L, i, v => if q.1 = i then (i, v) :: L.filter (lclob i (pcat v)) else if lclob i (pcat v) q = true then q :: lset L i v else lset L i v
theorem lset_mem : ∀ (L : List (Nat × PV)) (i : Nat) (v : PV) (q : Nat × PV), q ∈ lset L i v → q = (i, v) ∨ (q ∈ L ∧ lclob i (pcat v) q = true)
  | [], i, v, q, h => Or.inl (by simpa [lset] using h)
  | a :: L, i, v, q, h => by
    unfold lset at h
    by_cases h1 : a.1 = i
    · rw [if_pos h1] at h
      rcases List.mem_cons.mp h with h | h
      · exact Or.inl h
      · exact Or.inr ⟨List.mem_cons_of_mem _ (List.mem_filter.mp h).1, (List.mem_filter.mp h).2⟩
    · rw [if_neg h1] at h
      by_cases h2 : lclob i (pcat v) a = true
      · rw [if_pos h2] at h
        rcases List.mem_cons.mp h with h | h
        · subst h
          exact Or.inr ⟨List.mem_cons_self, h2⟩
        · rcases lset_mem L i v q h with h | h
          · exact Or.inl h
          · exact Or.inr ⟨List.mem_cons_of_mem _ h.1, h.2⟩
      · rw [if_neg h2] at h
        rcases lset_mem L i v q h with h | h
        · exact Or.inl h
        · exact Or.inr ⟨List.mem_cons_of_mem _ h.1, h.2⟩
theorem lset_has {ad : AD} {ls : Array Slot} {n i : Nat} {v : PV} {l1 : List (Nat × Value)} (h : lv_has ls n l1) (h1 : ∀ q, q ∈ L → lclob i (pcat v) q = true → (q.1, tv ad q.2) ∈ l1) (h2 : (i, tv ad v) ∈ l1) : lv_has ls n (lmap ad (lset L i v)) := by
  refine ⟨h.1, h.2.1, fun q hq => h.2.2 q ?_⟩
  obtain ⟨q0, h0, rfl⟩ := List.mem_map.mp hq
  rcases lset_mem L i v q0 h0 with rfl | ⟨a, b⟩
  · exact h2
  · exact h1 q0 a b
theorem lset_1 {ad : AD} {ls : Array Slot} {n i : Nat} {v : PV} (hv : pcat v = 1) (h : lv_has ls n ((i, tv ad v) :: (lmap ad L).filter (fun q => !(q.1 == i) && !(q.1 + 1 == i && q.2.category == 2)))) : lv_has ls n (lmap ad (lset L i v)) := by
  refine lset_has h (fun q hq hc => ?_) List.mem_cons_self
  refine List.mem_cons_of_mem _ (List.mem_filter.mpr ⟨List.mem_map.mpr ⟨q, hq, rfl⟩, ?_⟩)
  rw [hv] at hc
  simp only [lclob, tv_cat] at hc ⊢
  simpa using hc
theorem lset_2 {ad : AD} {ls : Array Slot} {n i : Nat} {v : PV} (hv : pcat v = 2) (h : lv_has ls n ((i, tv ad v) :: (lmap ad L).filter (fun q => !(q.1 == i) && (!(q.1 == i + 1) && !(q.1 + 1 == i && q.2.category == 2))))) : lv_has ls n (lmap ad (lset L i v)) := by
  refine lset_has h (fun q hq hc => ?_) List.mem_cons_self
  refine List.mem_cons_of_mem _ (List.mem_filter.mpr ⟨List.mem_map.mpr ⟨q, hq, rfl⟩, ?_⟩)
  rw [hv] at hc
  simp only [lclob, tv_cat] at hc ⊢
  simpa using hc
theorem go_istore_n {n : Fin 4} {i : Nat} {x : Int32} (k : Nat) (hk : (xt X)[k]? = some (pc, .istore_n n, pc')) (hn : (n : Nat) = i) (hi : i < xn X) (L' : List (Nat × PV)) (hL : lset L i (vi x) = L') (g : Gx l X tg cs pc' L' st M) : Gx l X tg cs pc L (vi x :: st) M := by
  intro D ad z p e s m args below meth c H locs ls A C hl hW
  obtain ⟨d, e1⟩ := C.1.at hk
  subst e1
  subst hL
  exact lv_istore_n (rest := smap ad st) C.2.1.1 C.2.1.2.1 d hn hl hi rfl (fun ls2 h2 => g D ad z p e s m args below meth c H locs ls2 A C (lset_1 rfl h2) hW)
theorem go_istore {i : Nat} {x : Int32} (k : Nat) (hk : (xt X)[k]? = some (pc, .istore i, pc')) (hi : i < xn X) (L' : List (Nat × PV)) (hL : lset L i (vi x) = L') (g : Gx l X tg cs pc' L' st M) : Gx l X tg cs pc L (vi x :: st) M := by
  intro D ad z p e s m args below meth c H locs ls A C hl hW
  obtain ⟨d, e1⟩ := C.1.at hk
  subst e1
  subst hL
  exact lv_istore (rest := smap ad st) C.2.1.1 C.2.1.2.1 d hl hi rfl (fun ls2 h2 => g D ad z p e s m args below meth c H locs ls2 A C (lset_1 rfl h2) hW)
theorem go_lstore_n {n : Fin 4} {i : Nat} {x : Int64} (k : Nat) (hk : (xt X)[k]? = some (pc, .lstore_n n, pc')) (hn : (n : Nat) = i) (hi : i + 1 < xn X) (L' : List (Nat × PV)) (hL : lset L i (vl x) = L') (g : Gx l X tg cs pc' L' st M) : Gx l X tg cs pc L (vl x :: st) M := by
  intro D ad z p e s m args below meth c H locs ls A C hl hW
  obtain ⟨d, e1⟩ := C.1.at hk
  subst e1
  subst hL
  exact lv_lstore_n (rest := smap ad st) C.2.1.1 C.2.1.2.1 d hn hl hi rfl (fun ls2 h2 => g D ad z p e s m args below meth c H locs ls2 A C (lset_2 rfl h2) hW)
theorem go_lstore {i : Nat} {x : Int64} (k : Nat) (hk : (xt X)[k]? = some (pc, .lstore i, pc')) (hi : i + 1 < xn X) (L' : List (Nat × PV)) (hL : lset L i (vl x) = L') (g : Gx l X tg cs pc' L' st M) : Gx l X tg cs pc L (vl x :: st) M := by
  intro D ad z p e s m args below meth c H locs ls A C hl hW
  obtain ⟨d, e1⟩ := C.1.at hk
  subst e1
  subst hL
  exact lv_lstore (rest := smap ad st) C.2.1.1 C.2.1.2.1 d hl hi rfl (fun ls2 h2 => g D ad z p e s m args below meth c H locs ls2 A C (lset_2 rfl h2) hW)
theorem go_astore_n {n : Fin 4} {i : Nat} {a b : Nat} (k : Nat) (hk : (xt X)[k]? = some (pc, .astore_n n, pc')) (hn : (n : Nat) = i) (hi : i < xn X) (L' : List (Nat × PV)) (hL : lset L i (vr a b) = L') (g : Gx l X tg cs pc' L' st M) : Gx l X tg cs pc L (vr a b :: st) M := by
  intro D ad z p e s m args below meth c H locs ls A C hl hW
  obtain ⟨d, e1⟩ := C.1.at hk
  subst e1
  subst hL
  exact lv_astore_n (rest := smap ad st) C.2.1.1 C.2.1.2.1 d hn hl hi rfl (fun ls2 h2 => g D ad z p e s m args below meth c H locs ls2 A C (lset_1 rfl h2) hW)
theorem go_astore {i : Nat} {a b : Nat} (k : Nat) (hk : (xt X)[k]? = some (pc, .astore i, pc')) (hi : i < xn X) (L' : List (Nat × PV)) (hL : lset L i (vr a b) = L') (g : Gx l X tg cs pc' L' st M) : Gx l X tg cs pc L (vr a b :: st) M := by
  intro D ad z p e s m args below meth c H locs ls A C hl hW
  obtain ⟨d, e1⟩ := C.1.at hk
  subst e1
  subst hL
  exact lv_astore (rest := smap ad st) C.2.1.1 C.2.1.2.1 d hl hi rfl (fun ls2 h2 => g D ad z p e s m args below meth c H locs ls2 A C (lset_1 rfl h2) hW)
theorem go_iinc {i : Nat} {n : Int} {x : Int32} (dd : Int32) (k : Nat) (hk : (xt X)[k]? = some (pc, .iinc i n, pc')) (j : Nat) (hj : L[j]? = some (i, vi x)) (hd : Int32.ofInt n = dd) (hi : i < xn X) (L' : List (Nat × PV)) (hL : lset L i (vi (x + dd)) = L') (g : Gx l X tg cs pc' L' st M) : Gx l X tg cs pc L st M := by
  intro D ad z p e s m args below meth c H locs ls A C hl hW
  obtain ⟨d, e1⟩ := C.1.at hk
  subst e1
  subst hL
  subst hd
  exact lv_iinc (rest := smap ad st) C.2.1.1 C.2.1.2.1 d hl (k := j) (x := x) (by simp [lmap, hj, tv]) rfl hi rfl (fun ls2 h2 => g D ad z p e s m args below meth c H locs ls2 A C (lset_1 rfl h2) hW)
theorem sm_cat {ad : AD} {v : PV} {w : Nat} (h : pcat v = w) : (tv ad v).category = w := by rw [tv_cat]; exact h
theorem go_dup {v : PV} (k : Nat) (hk : (xt X)[k]? = some (pc, .dup, pc')) (hv : pcat v = 1) (g : Gx l X tg cs pc' L (v :: v :: st) M) : Gx l X tg cs pc L (v :: st) M := by
  intro D ad z p e s m args below meth c H locs ls A C hl hW
  obtain ⟨d, e1⟩ := C.1.at hk
  subst e1
  exact lv_dup (va := tv ad v) (rest := smap ad st) C.2.1.1 C.2.1.2.1 d (sm_cat hv) (g D ad z p e s m args below meth c H locs ls A C hl hW)
theorem go_pop {v : PV} (k : Nat) (hk : (xt X)[k]? = some (pc, .pop, pc')) (hv : pcat v = 1) (g : Gx l X tg cs pc' L (st) M) : Gx l X tg cs pc L (v :: st) M := by
  intro D ad z p e s m args below meth c H locs ls A C hl hW
  obtain ⟨d, e1⟩ := C.1.at hk
  subst e1
  exact lv_pop (va := tv ad v) (rest := smap ad st) C.2.1.1 C.2.1.2.1 d (sm_cat hv) (g D ad z p e s m args below meth c H locs ls A C hl hW)
theorem go_dup_x1 {v u : PV} (k : Nat) (hk : (xt X)[k]? = some (pc, .dup_x1, pc')) (hv : pcat v = 1) (hu : pcat u = 1) (g : Gx l X tg cs pc' L (v :: u :: v :: st) M) : Gx l X tg cs pc L (v :: u :: st) M := by
  intro D ad z p e s m args below meth c H locs ls A C hl hW
  obtain ⟨d, e1⟩ := C.1.at hk
  subst e1
  exact lv_dup_x1 (va := tv ad v) (vb := tv ad u) (rest := smap ad st) C.2.1.1 C.2.1.2.1 d (sm_cat hv) (sm_cat hu) (g D ad z p e s m args below meth c H locs ls A C hl hW)
theorem go_dup_x2 {v u w : PV} (k : Nat) (hk : (xt X)[k]? = some (pc, .dup_x2, pc')) (hv : pcat v = 1) (hu : pcat u = 1) (hw : pcat w = 1) (g : Gx l X tg cs pc' L (v :: u :: w :: v :: st) M) : Gx l X tg cs pc L (v :: u :: w :: st) M := by
  intro D ad z p e s m args below meth c H locs ls A C hl hW
  obtain ⟨d, e1⟩ := C.1.at hk
  subst e1
  exact lv_dup_x2 (va := tv ad v) (vb := tv ad u) (vd := tv ad w) (rest := smap ad st) C.2.1.1 C.2.1.2.1 d (sm_cat hv) (sm_cat hu) (sm_cat hw) (g D ad z p e s m args below meth c H locs ls A C hl hW)
theorem go_dup2 {v u : PV} (k : Nat) (hk : (xt X)[k]? = some (pc, .dup2, pc')) (hv : pcat v = 1) (hu : pcat u = 1) (g : Gx l X tg cs pc' L (v :: u :: v :: u :: st) M) : Gx l X tg cs pc L (v :: u :: st) M := by
  intro D ad z p e s m args below meth c H locs ls A C hl hW
  obtain ⟨d, e1⟩ := C.1.at hk
  subst e1
  exact lv_dup2_11 (va := tv ad v) (vb := tv ad u) (rest := smap ad st) C.2.1.1 C.2.1.2.1 d (sm_cat hv) (sm_cat hu) (g D ad z p e s m args below meth c H locs ls A C hl hW)
theorem go_dup2l {v : PV} (k : Nat) (hk : (xt X)[k]? = some (pc, .dup2, pc')) (hv : pcat v = 2) (g : Gx l X tg cs pc' L (v :: v :: st) M) : Gx l X tg cs pc L (v :: st) M := by
  intro D ad z p e s m args below meth c H locs ls A C hl hW
  obtain ⟨d, e1⟩ := C.1.at hk
  subst e1
  exact lv_dup2_2 (va := tv ad v) (rest := smap ad st) C.2.1.1 C.2.1.2.1 d (sm_cat hv) (g D ad z p e s m args below meth c H locs ls A C hl hW)
theorem go_pop2l {v : PV} (k : Nat) (hk : (xt X)[k]? = some (pc, .pop2, pc')) (hv : pcat v = 2) (g : Gx l X tg cs pc' L (st) M) : Gx l X tg cs pc L (v :: st) M := by
  intro D ad z p e s m args below meth c H locs ls A C hl hW
  obtain ⟨d, e1⟩ := C.1.at hk
  subst e1
  exact lv_pop2_2 (va := tv ad v) (rest := smap ad st) C.2.1.1 C.2.1.2.1 d (sm_cat hv) (g D ad z p e s m args below meth c H locs ls A C hl hW)
theorem go_if_eq {x : Int32} {off : Int} (tgt : Nat) (k : Nat) (hk : (xt X)[k]? = some (pc, .ifCond .eq off, pc')) (ht : (pc : Int) + off = (tgt : Int)) (kt : x = 0 → Gx l X tg cs tgt L st M) (kf : ¬ x = 0 → Gx l X tg cs pc' L st M) : Gx l X tg cs pc L (vi x :: st) M := by
  intro D ad z p e s m args below meth c H locs ls A C hl hW
  obtain ⟨d, e1⟩ := C.1.at hk
  subst e1
  exact lv_if_eq (rest := smap ad st) C.2.1.1 C.2.1.2.1 d ht (fun h => kt h D ad z p e s m args below meth c H locs ls A C hl hW) (fun h => kf h D ad z p e s m args below meth c H locs ls A C hl hW)
theorem go_icmp_eq {x y : Int32} {off : Int} (tgt : Nat) (k : Nat) (hk : (xt X)[k]? = some (pc, .if_icmp .eq off, pc')) (ht : (pc : Int) + off = (tgt : Int)) (kt : x = y → Gx l X tg cs tgt L st M) (kf : ¬ x = y → Gx l X tg cs pc' L st M) : Gx l X tg cs pc L (vi y :: vi x :: st) M := by
  intro D ad z p e s m args below meth c H locs ls A C hl hW
  obtain ⟨d, e1⟩ := C.1.at hk
  subst e1
  exact lv_icmp_eq (rest := smap ad st) C.2.1.1 C.2.1.2.1 d ht (fun h => kt h D ad z p e s m args below meth c H locs ls A C hl hW) (fun h => kf h D ad z p e s m args below meth c H locs ls A C hl hW)
theorem go_if_ne {x : Int32} {off : Int} (tgt : Nat) (k : Nat) (hk : (xt X)[k]? = some (pc, .ifCond .ne off, pc')) (ht : (pc : Int) + off = (tgt : Int)) (kt : ¬ x = 0 → Gx l X tg cs tgt L st M) (kf : x = 0 → Gx l X tg cs pc' L st M) : Gx l X tg cs pc L (vi x :: st) M := by
  intro D ad z p e s m args below meth c H locs ls A C hl hW
  obtain ⟨d, e1⟩ := C.1.at hk
  subst e1
  exact lv_if_ne (rest := smap ad st) C.2.1.1 C.2.1.2.1 d ht (fun h => kt h D ad z p e s m args below meth c H locs ls A C hl hW) (fun h => kf h D ad z p e s m args below meth c H locs ls A C hl hW)
theorem go_icmp_ne {x y : Int32} {off : Int} (tgt : Nat) (k : Nat) (hk : (xt X)[k]? = some (pc, .if_icmp .ne off, pc')) (ht : (pc : Int) + off = (tgt : Int)) (kt : ¬ x = y → Gx l X tg cs tgt L st M) (kf : x = y → Gx l X tg cs pc' L st M) : Gx l X tg cs pc L (vi y :: vi x :: st) M := by
  intro D ad z p e s m args below meth c H locs ls A C hl hW
  obtain ⟨d, e1⟩ := C.1.at hk
  subst e1
  exact lv_icmp_ne (rest := smap ad st) C.2.1.1 C.2.1.2.1 d ht (fun h => kt h D ad z p e s m args below meth c H locs ls A C hl hW) (fun h => kf h D ad z p e s m args below meth c H locs ls A C hl hW)
theorem go_if_lt {x : Int32} {off : Int} (tgt : Nat) (k : Nat) (hk : (xt X)[k]? = some (pc, .ifCond .lt off, pc')) (ht : (pc : Int) + off = (tgt : Int)) (kt : x < 0 → Gx l X tg cs tgt L st M) (kf : ¬ x < 0 → Gx l X tg cs pc' L st M) : Gx l X tg cs pc L (vi x :: st) M := by
  intro D ad z p e s m args below meth c H locs ls A C hl hW
  obtain ⟨d, e1⟩ := C.1.at hk
  subst e1
  exact lv_if_lt (rest := smap ad st) C.2.1.1 C.2.1.2.1 d ht (fun h => kt h D ad z p e s m args below meth c H locs ls A C hl hW) (fun h => kf h D ad z p e s m args below meth c H locs ls A C hl hW)
theorem go_icmp_lt {x y : Int32} {off : Int} (tgt : Nat) (k : Nat) (hk : (xt X)[k]? = some (pc, .if_icmp .lt off, pc')) (ht : (pc : Int) + off = (tgt : Int)) (kt : x < y → Gx l X tg cs tgt L st M) (kf : ¬ x < y → Gx l X tg cs pc' L st M) : Gx l X tg cs pc L (vi y :: vi x :: st) M := by
  intro D ad z p e s m args below meth c H locs ls A C hl hW
  obtain ⟨d, e1⟩ := C.1.at hk
  subst e1
  exact lv_icmp_lt (rest := smap ad st) C.2.1.1 C.2.1.2.1 d ht (fun h => kt h D ad z p e s m args below meth c H locs ls A C hl hW) (fun h => kf h D ad z p e s m args below meth c H locs ls A C hl hW)
theorem go_if_ge {x : Int32} {off : Int} (tgt : Nat) (k : Nat) (hk : (xt X)[k]? = some (pc, .ifCond .ge off, pc')) (ht : (pc : Int) + off = (tgt : Int)) (kt : 0 ≤ x → Gx l X tg cs tgt L st M) (kf : ¬ 0 ≤ x → Gx l X tg cs pc' L st M) : Gx l X tg cs pc L (vi x :: st) M := by
  intro D ad z p e s m args below meth c H locs ls A C hl hW
  obtain ⟨d, e1⟩ := C.1.at hk
  subst e1
  exact lv_if_ge (rest := smap ad st) C.2.1.1 C.2.1.2.1 d ht (fun h => kt h D ad z p e s m args below meth c H locs ls A C hl hW) (fun h => kf h D ad z p e s m args below meth c H locs ls A C hl hW)
theorem go_icmp_ge {x y : Int32} {off : Int} (tgt : Nat) (k : Nat) (hk : (xt X)[k]? = some (pc, .if_icmp .ge off, pc')) (ht : (pc : Int) + off = (tgt : Int)) (kt : y ≤ x → Gx l X tg cs tgt L st M) (kf : ¬ y ≤ x → Gx l X tg cs pc' L st M) : Gx l X tg cs pc L (vi y :: vi x :: st) M := by
  intro D ad z p e s m args below meth c H locs ls A C hl hW
  obtain ⟨d, e1⟩ := C.1.at hk
  subst e1
  exact lv_icmp_ge (rest := smap ad st) C.2.1.1 C.2.1.2.1 d ht (fun h => kt h D ad z p e s m args below meth c H locs ls A C hl hW) (fun h => kf h D ad z p e s m args below meth c H locs ls A C hl hW)
theorem go_if_gt {x : Int32} {off : Int} (tgt : Nat) (k : Nat) (hk : (xt X)[k]? = some (pc, .ifCond .gt off, pc')) (ht : (pc : Int) + off = (tgt : Int)) (kt : 0 < x → Gx l X tg cs tgt L st M) (kf : ¬ 0 < x → Gx l X tg cs pc' L st M) : Gx l X tg cs pc L (vi x :: st) M := by
  intro D ad z p e s m args below meth c H locs ls A C hl hW
  obtain ⟨d, e1⟩ := C.1.at hk
  subst e1
  exact lv_if_gt (rest := smap ad st) C.2.1.1 C.2.1.2.1 d ht (fun h => kt h D ad z p e s m args below meth c H locs ls A C hl hW) (fun h => kf h D ad z p e s m args below meth c H locs ls A C hl hW)
theorem go_icmp_gt {x y : Int32} {off : Int} (tgt : Nat) (k : Nat) (hk : (xt X)[k]? = some (pc, .if_icmp .gt off, pc')) (ht : (pc : Int) + off = (tgt : Int)) (kt : y < x → Gx l X tg cs tgt L st M) (kf : ¬ y < x → Gx l X tg cs pc' L st M) : Gx l X tg cs pc L (vi y :: vi x :: st) M := by
  intro D ad z p e s m args below meth c H locs ls A C hl hW
  obtain ⟨d, e1⟩ := C.1.at hk
  subst e1
  exact lv_icmp_gt (rest := smap ad st) C.2.1.1 C.2.1.2.1 d ht (fun h => kt h D ad z p e s m args below meth c H locs ls A C hl hW) (fun h => kf h D ad z p e s m args below meth c H locs ls A C hl hW)
theorem go_if_le {x : Int32} {off : Int} (tgt : Nat) (k : Nat) (hk : (xt X)[k]? = some (pc, .ifCond .le off, pc')) (ht : (pc : Int) + off = (tgt : Int)) (kt : x ≤ 0 → Gx l X tg cs tgt L st M) (kf : ¬ x ≤ 0 → Gx l X tg cs pc' L st M) : Gx l X tg cs pc L (vi x :: st) M := by
  intro D ad z p e s m args below meth c H locs ls A C hl hW
  obtain ⟨d, e1⟩ := C.1.at hk
  subst e1
  exact lv_if_le (rest := smap ad st) C.2.1.1 C.2.1.2.1 d ht (fun h => kt h D ad z p e s m args below meth c H locs ls A C hl hW) (fun h => kf h D ad z p e s m args below meth c H locs ls A C hl hW)
theorem go_icmp_le {x y : Int32} {off : Int} (tgt : Nat) (k : Nat) (hk : (xt X)[k]? = some (pc, .if_icmp .le off, pc')) (ht : (pc : Int) + off = (tgt : Int)) (kt : x ≤ y → Gx l X tg cs tgt L st M) (kf : ¬ x ≤ y → Gx l X tg cs pc' L st M) : Gx l X tg cs pc L (vi y :: vi x :: st) M := by
  intro D ad z p e s m args below meth c H locs ls A C hl hW
  obtain ⟨d, e1⟩ := C.1.at hk
  subst e1
  exact lv_icmp_le (rest := smap ad st) C.2.1.1 C.2.1.2.1 d ht (fun h => kt h D ad z p e s m args below meth c H locs ls A C hl hW) (fun h => kf h D ad z p e s m args below meth c H locs ls A C hl hW)
theorem go_goto {off : Int} (tgt : Nat) (k : Nat) (hk : (xt X)[k]? = some (pc, .goto off, pc')) (ht : (pc : Int) + off = (tgt : Int)) (g : Gx l X tg cs tgt L st M) : Gx l X tg cs pc L st M := by
  intro D ad z p e s m args below meth c H locs ls A C hl hW
  obtain ⟨d, e1⟩ := C.1.at hk
  exact lv_goto (rest := smap ad st) C.2.1.1 C.2.1.2.1 d ht (g D ad z p e s m args below meth c H locs ls A C hl hW)
theorem go_iaload {i : Int32} {j : Nat} (k : Nat) (hk : (xt X)[k]? = some (pc, .iaload, pc')) (ho : (1, j) ∈ allc) (hin : vp_in i (lenI j)) (g : Gx l X tg cs pc' L (vi (M.1 (1, j) i.toNatClampNeg) :: st) M) : Gx l X tg cs pc L (vi i :: vr 1 j :: st) M := by
  intro D ad z p e s m args below meth c H locs ls A C hl hW
  obtain ⟨d, e1⟩ := C.1.at hk
  subst e1
  obtain ⟨q, hq, -⟩ := wd_at (ad := ad) (z := z) (M := M) ho
  exact va_iald (rest := smap ad st) C.2.1.1 C.2.1.2.1 C.2.2.2.2.2.1 hW.1 q 0 hq rfl hin d (g D ad z p e s m args below meth c H locs ls A C hl hW)
theorem go_laload {i : Int32} {j : Nat} (k : Nat) (hk : (xt X)[k]? = some (pc, .laload, pc')) (ho : (2, j) ∈ allc) (hin : vp_in i (lenL j)) (g : Gx l X tg cs pc' L (vl (M.2 (2, j) i.toNatClampNeg) :: st) M) : Gx l X tg cs pc L (vi i :: vr 2 j :: st) M := by
  intro D ad z p e s m args below meth c H locs ls A C hl hW
  obtain ⟨d, e1⟩ := C.1.at hk
  subst e1
  obtain ⟨q, hq, -⟩ := wd_at (ad := ad) (z := z) (M := M) ho
  exact va_lald (rest := smap ad st) C.2.1.1 C.2.1.2.1 C.2.2.2.2.2.1 hW.1 q 1 hq rfl hin d (g D ad z p e s m args below meth c H locs ls A C hl hW)
theorem go_aaload {i : Int32} (k : Nat) (hk : (xt X)[k]? = some (pc, .aaload, pc')) (hin : vp_in i 6) (g : Gx l X tg cs pc' L (vr 0 i.toNatClampNeg :: st) M) : Gx l X tg cs pc L (vi i :: vr 4 0 :: st) M := by
  intro D ad z p e s m args below meth c H locs ls A C hl hW
  obtain ⟨d, e1⟩ := C.1.at hk
  subst e1
  obtain ⟨q, hq, -⟩ := wd_at (ad := ad) (z := z) (M := M) (c := (4, 0)) (by decide)
  exact va_aldq (rest := smap ad st) C.2.1.1 C.2.1.2.1 C.2.2.2.2.2.1 hW.1 q 2 hq rfl hin d (g D ad z p e s m args below meth c H locs ls A C hl hW)
theorem go_arraylength {j : Nat} (v : Int32) (k : Nat) (hk : (xt X)[k]? = some (pc, .arraylength, pc')) (ho : (1, j) ∈ allc) (hv : Int32.ofNat (lenI j) = v) (g : Gx l X tg cs pc' L (vi v :: st) M) : Gx l X tg cs pc L (vr 1 j :: st) M := by
  intro D ad z p e s m args below meth c H locs ls A C hl hW
  obtain ⟨d, e1⟩ := C.1.at hk
  subst e1
  obtain ⟨q, hq, -⟩ := wd_at (ad := ad) (z := z) (M := M) ho
  exact va_alen (rest := smap ad st) C.2.1.1 C.2.1.2.1 C.2.2.2.2.2.1 hW.1 q 0 hq (ty := .int) rfl hv d (g D ad z p e s m args below meth c H locs ls A C hl hW)
theorem Hw.set {D : va_G} {ad : AD} {z : Zc} {s : State} {A : Nat → Prop} {M' : Mm} {H1 : Heap} {locs1 : List Loc} {c : Nat × Nat} {q : Nat} (hq : allc[q]? = some c) (h1 : ∀ c', c' ≠ c → M'.1 c' = M.1 c' ∧ M'.2 c' = M.2 c') {e : va_E} (he : e = ent ad z (M'.1 c) (M'.2 c) c) (hP : va_P D classes ((wd ad z M).set q (ad c, e)) H1) (hD : va_D A ((wd ad z M).set q (ad c, e))) (hS : va_S A s.heap H1 locs1) : Hw D ad z s A M' H1 locs1 := by
  rw [wd_set hq h1 he] at hP hD
  exact ⟨hP, hD, hS⟩
theorem go_iastore {i x : Int32} {j : Nat} (k : Nat) (hk : (xt X)[k]? = some (pc, .iastore, pc')) (ho : (1, j) ∈ allc) (hin : vp_in i (lenI j)) (g : Gx l X tg cs pc' L st (uI M (1, j) i.toNatClampNeg x)) : Gx l X tg cs pc L (vi x :: vi i :: vr 1 j :: st) M := by
  intro D ad z p e s m args below meth c H locs ls A C hl hW
  obtain ⟨d, e1⟩ := C.1.at hk
  subst e1
  obtain ⟨q, hq, hq2⟩ := wd_at (ad := ad) (z := z) (M := M) ho
  exact va_iast (rest := smap ad st) C.2.1.1 C.2.1.2.1 C.2.2.2.2.2.1 hW.1 hW.2.1 hW.2.2 q 0 hq rfl hin d (fun H1 locs1 h1 h2 h3 => g D ad z p e s m args below meth c H1 locs1 ls A C hl (Hw.set hq2 (fun c' hc => ⟨uI_ne M _ _ hc, rfl⟩) (by rw [uI_self]; rfl) h1 h2 h3))
theorem go_lastore {i : Int32} {x : Int64} {j : Nat} (k : Nat) (hk : (xt X)[k]? = some (pc, .lastore, pc')) (ho : (2, j) ∈ allc) (hin : vp_in i (lenL j)) (g : Gx l X tg cs pc' L st (uL M (2, j) i.toNatClampNeg x)) : Gx l X tg cs pc L (vl x :: vi i :: vr 2 j :: st) M := by
  intro D ad z p e s m args below meth c H locs ls A C hl hW
  obtain ⟨d, e1⟩ := C.1.at hk
  subst e1
  obtain ⟨q, hq, hq2⟩ := wd_at (ad := ad) (z := z) (M := M) ho
  exact va_last (rest := smap ad st) C.2.1.1 C.2.1.2.1 C.2.2.2.2.2.1 hW.1 hW.2.1 hW.2.2 q 1 hq rfl hin d (fun H1 locs1 h1 h2 h3 => g D ad z p e s m args below meth c H1 locs1 ls A C hl (Hw.set (M := M) (M' := uL M (2, j) i.toNatClampNeg x) hq2 (fun c' hc => ⟨rfl, uL_ne M _ _ hc⟩) (by rw [uL_self]; rfl) h1 h2 h3))
/-- a field of the class of kind kd, as the class 'own' links it -/
def FG (own : String) (idx kd slot : Nat) : Prop := ∃ (C : String) (T : u_T) (N : Nat), classes[cix kd]? = some (C, T, N) ∧ slot < N ∧ (∀ w ∈ u_ws C T N, w ∈ WB) ∧ (Cond.fieldLink own idx (T slot).1 (T slot).2.1 (T slot).2.2.1 ∈ WB ∨ ∃ host, Cond.fieldLinkNest own idx (T slot).1 (T slot).2.1 (T slot).2.2.1 host ∈ NW)
/-- .. that may be written, of the type ty -/
def FP (own : String) (idx kd slot : Nat) (ty : FieldType) : Prop := ∃ (C : String) (T : u_T) (N : Nat) (ty0 : Nat → FieldType), classes[cix kd]? = some (C, T, N) ∧ slot < N ∧ (∀ w ∈ u_ws C T N, w ∈ WB) ∧ (Cond.fieldLink own idx (T slot).1 (T slot).2.1 (T slot).2.2.1 ∈ WB ∨ ∃ host, Cond.fieldLinkNest own idx (T slot).1 (T slot).2.1 (T slot).2.2.1 host ∈ NW) ∧ (∀ k, k < N → parseFieldDescriptor (T k).2.2.1 = some (ty0 k)) ∧ (∀ a, a < N → ∀ b, b < N → a ≠ b → (T a).2.1 ≠ (T b).2.1) ∧ (T slot).2.2.2 = false ∧ parseFieldDescriptor (T slot).2.2.1 = some ty
def objk (kd : Nat) : Bool := match kd with
  | 1 => false
  | 2 => false
  | 4 => false
  | _ => true
theorem ent_obj {ad : AD} {z : Zc} {f : Nat → Int32} {g : Nat → Int64} {kd j : Nat} (h : objk kd = true) : ent ad z f g (kd, j) = .inr (cix kd, smap ad (fl f (kd, j))) := by
  match kd, h with
  | 0, _ => rfl
  | 3, _ => rfl
  | n + 5, _ => rfl
theorem go_getfield {idx kd j : Nat} (slot : Nat) (v : PV) (k : Nat) (hk : (xt X)[k]? = some (pc, .getfield idx, pc')) (ho : (kd, j) ∈ allc) (hb : objk kd = true) (hf : FG (xy X).cls idx kd slot) (hv : (fl (M.1 (kd, j)) (kd, j))[slot]? = some v) (g : Gx l X tg cs pc' L (v :: st) M) : Gx l X tg cs pc L (vr kd j :: st) M := by
  intro D ad z p e s m args below meth c H locs ls A C hl hW
  obtain ⟨d, e1⟩ := C.1.at hk
  subst e1
  obtain ⟨q, hq, -⟩ := wd_at (ad := ad) (z := z) (M := M) ho
  rw [ent_obj hb] at hq
  obtain ⟨Cn, T, N, h1, h2, h3, h4⟩ := hf
  have hv2 : (smap ad (fl (M.1 (kd, j)) (kd, j)))[slot]? = some (tv ad v) := by simp [smap, hv]
  rcases h4 with h4 | ⟨host, h4⟩
  · exact va_get (rest := smap ad st) C.2.1.1 C.2.1.2.1 C.2.1.2.2.2.2 h3 C.2.1.2.2.2.1 C.2.2.2.2.2.1 hW.1 q hq h1 slot h2 (C.2.1.2.2.2.2 _ h4) (fun _ h9 => h9) hv2 d (g D ad z p e s m args below meth c H locs ls A C hl hW)
  · exact va_getN (rest := smap ad st) C.2.1.1 C.2.1.2.1 C.2.1.2.2.2.2 h3 C.2.1.2.2.2.1 C.2.2.2.2.2.1 hW.1 q hq h1 slot h2 (va_Nw.use rfl (C.2.2.2.2.1 _ h4)) (fun _ h9 => h9) hv2 d (g D ad z p e s m args below meth c H locs ls A C hl hW)
theorem go_putfield {idx kd j : Nat} {x : Int32} (slot : Nat) (ty : FieldType) (k : Nat) (hk : (xt X)[k]? = some (pc, .putfield idx, pc')) (ho : (kd, j) ∈ allc) (hb : objk kd = true) (hf : FP (xy X).cls idx kd slot ty) (hn : narrow ty (.int x) = .int x) (ht : fits ty (.int x) = true) (hlen : slot < (fl (M.1 (kd, j)) (kd, j)).length) (hs : fl (upd (M.1 (kd, j)) slot x) (kd, j) = (fl (M.1 (kd, j)) (kd, j)).set slot (vi x)) (g : Gx l X tg cs pc' L st (uI M (kd, j) slot x)) : Gx l X tg cs pc L (vi x :: vr kd j :: st) M := by
  intro D ad z p e s m args below meth c H locs ls A C hl hW
  obtain ⟨d, e1⟩ := C.1.at hk
  subst e1
  obtain ⟨q, hq, hq2⟩ := wd_at (ad := ad) (z := z) (M := M) ho
  rw [ent_obj hb] at hq
  obtain ⟨Cn, T, N, ty0, h1, h2, h3, h4, h5, h6, h7, h8⟩ := hf
  have hlen2 : slot < (smap ad (fl (M.1 (kd, j)) (kd, j))).length := by simpa [smap] using hlen
  have key : Sum.inr (cix kd, (smap ad (fl (M.1 (kd, j)) (kd, j))).set slot (.int x)) = ent ad z ((uI M (kd, j) slot x).1 (kd, j)) ((uI M (kd, j) slot x).2 (kd, j)) (kd, j) := by
    rw [uI_self, ent_obj hb, hs]
    simp [smap, List.map_set, tv]
  rcases h4 with h4 | ⟨host, h4⟩
  · exact va_put (rest := smap ad st) C.2.1.1 C.2.1.2.1 C.2.1.2.2.2.2 h3 ty0 h5 h6 C.2.1.2.2.2.1 C.2.2.2.2.2.1 hW.1 hW.2.1 hW.2.2 q hq h1 slot h2 (C.2.1.2.2.2.2 _ h4) (fun _ h9 => h9) h7 h8 hn ht hlen2 d (fun H1 locs1 g1 g2 g3 => g D ad z p e s m args below meth c H1 locs1 ls A C hl (Hw.set hq2 (fun c' hc => ⟨uI_ne M _ _ hc, rfl⟩) key g1 g2 g3))
  · exact va_putN (rest := smap ad st) C.2.1.1 C.2.1.2.1 C.2.1.2.2.2.2 h3 ty0 h5 h6 C.2.1.2.2.2.1 C.2.2.2.2.2.1 hW.1 hW.2.1 hW.2.2 q hq h1 slot h2 (va_Nw.use rfl (C.2.2.2.2.1 _ h4)) (fun _ h9 => h9) h7 h8 hn ht hlen2 d (fun H1 locs1 g1 g2 g3 => g D ad z p e s m args below meth c H1 locs1 ls A C hl (Hw.set hq2 (fun c' hc => ⟨uI_ne M _ _ hc, rfl⟩) key g1 g2 g3))
/-- a call site: how 'own' links the method -/
def CL (own : String) (idx : Nat) (Y : MX) : Prop := Cond.methodLink own idx (xy Y) ∈ WB ∨ ∃ host, Cond.methodLinkNest own idx (xy Y) host ∈ NW
def CS (own : String) (idx : Nat) (Y : MX) (n : Nat) : Prop := CL own idx Y ∧ Cond.static (xy Y) ∈ WB ∧ (parseMethodDescriptor (xy Y).desc).map (fun d => d.parameters.length) = some n
def CV (own : String) (idx : Nat) (Y : MX) (n kd : Nat) : Prop := CL own idx Y ∧ (Cond.instanceMethod (xy Y) ∈ WB ∧ Cond.selects (xy Y).cls (xy Y) (xy Y) ∈ WB) ∧ (parseMethodDescriptor (xy Y).desc).map (fun d => d.parameters.length) = some n ∧ ∃ (T : u_T) (N : Nat), classes[cix kd]? = some ((xy Y).cls, T, N)
def Rm (X Y : MX) : Prop := (xm Y).frames + 1 ≤ (xm X).frames ∧ 8 + (xn Y + 11) + (xm Y).locals ≤ (xm X).locals
theorem preW_blind {l : Launch} {D : va_G} {ad : AD} {z : Zc} {M : Mm} {sz : Nat} {av : List Value} : FrameBlind (va_Pc av (PreW l D ad z M sz)) := by
  intro a U g mk q
  obtain ⟨q0, q1, ⟨x1, x2, x3, x4, x5, x6⟩, q2, q3, q4, q5⟩ := q
  exact ⟨q0, q1, ⟨x1, vx_Zq.moved (u := U) (U := U.calling g mk a) (Vm.Alike.refl U.vm) x2, vx_Zq.moved (u := U) (U := U.calling g mk a) (Vm.Alike.refl U.vm) x3, fun q hq => (x4 q hq).elim fun sa h => ⟨sa, vk_R.same (u := U) (U := U.calling g mk a) rfl h⟩, va_Nc.moved (u := U) (U := U.calling g mk a) (Vm.Alike.refl U.vm) x5, va_Nc.moved (u := U) (U := U.calling g mk a) (Vm.Alike.refl U.vm) x6⟩, nw_same (s := U) (U := U.calling g mk a) rfl q2, q3, va_K.moved (u := U) (U := U.calling g mk a) (Vm.Alike.refl U.vm) q4, q5⟩
theorem exw_at {A B : Nat → Prop} {s U : State} {H : Heap} {locs : List Loc} (h : Exw l A s) (hAB : ∀ q, B q → A q) (hS : va_S A s.heap H locs) (hU : U.heap = H) (hWa : s.WarmedH U.vm) : Exw l B U := by
  obtain ⟨x1, x2, x3, x4, x5, x6⟩ := h
  have hk : ∀ a : Nat, a < s.heap.size → ¬ A a → U.heap[a]? = s.heap[a]? := fun a h1 h2 => by rw [hU]; exact hS.2.1 a h1 h2
  exact ⟨x1, vx_Zq.narrow (vx_Zq.moved hWa.alike (vx_Zq.kept x2 hk)) hAB, vx_Zq.narrow (vx_Zq.moved hWa.alike (vx_Zq.kept x3 hk)) hAB, fun q hq => (x4 q hq).elim fun sa h => ⟨sa, vk_R.warm hWa h⟩, va_Nc.moved hWa.alike x5, va_Nc.moved hWa.alike x6⟩
theorem wd_A {D : va_G} {ad : AD} {z : Zc} {s : State} {A : Nat → Prop} {H : Heap} {locs : List Loc} (hA : ∀ q, s.heap.size ≤ q → A q) (hW : Hw D ad z s A M H locs) : ∀ q, va_A (wd ad z M) H.size q → A q := by
  intro q h
  rcases h with ⟨k, e, h⟩ | h
  · exact hW.2.1.2 k _ h
  · exact hA q (Nat.le_trans hW.2.2.1 h)
theorem preW_at {D : va_G} {ad : AD} {z : Zc} {p : Program} {s : State} {m : MethodId} {args : Array Value} {meth : Method} {c : Code} {A : Nat → Prop} {H : Heap} {locs : List Loc} (C : Cx l X tg cs D ad z p s m args meth c A) (hW : Hw D ad z s A M H locs) {U : State} (hU : U.heap = H) (hWa : s.WarmedH U.vm) : PreW l D ad z M H.size U :=
  ⟨by rw [hU], exw_at C.2.2.2.2.2.2.2.1 (wd_A C.2.2.2.2.2.2.1 hW) hW.2.2 hU hWa, nw_warm hWa C.2.2.2.2.1, by rw [hU]; exact hW.1, va_K.moved hWa.alike C.2.2.2.2.2.1, hW.2.1.weaken (fun _ _ _ _ => trivial)⟩
/-- behind a call -/
theorem go_ret {D : va_G} {ad : AD} {z : Zc} {p : Program} {e : Env} {s : State} {m : MethodId} {args : Array Value} {below : List Frame} {meth : Method} {c : Code} {H : Heap} {locs : List Loc} {ls : Array Slot} {A : Nat → Prop} {postY : Option PV → Mm → Prop} {stk : List Value} {a : Array Value} (C : Cx l X tg cs D ad z p s m args meth c A) (hl : lv_has ls (xn X) (lmap ad L)) (hW : Hw D ad z s A M H locs)
    (hr : va_Run p l e (xm X) s m args below meth c H locs cs.1 cs.2 0 0 (F0 m pc ls stk) (smap ad st) (gQ D ad z postY (va_A (wd ad z M) H.size) a) (va_A (wd ad z M) H.size))
    (g : ∀ r M', postY r M' → Gx l X tg cs (pc + 3) L (r.toList ++ st) M') : W p l e (xm X) s m args below meth c H locs cs.1 cs.2 (tg.1 D ad z s args below A) (F0 m pc ls stk) := by
  have hF := wd_A C.2.2.2.2.2.2.1 hW
  intro T hT S
  obtain ⟨v, st0, t, T', Lc, h0, S', hL, e1, e2, ⟨⟨r, M', hv, hp, hP1, hK1, hD1⟩, hz, hk⟩, sp⟩ := hr T hT S
  have hv2 : v = r.map (tv ad) := by injection hv
  subst hv2
  rw [h0] at hz hk
  have hS := hW.2.2
  obtain ⟨t2, a1, b1⟩ := g r M' hp D ad z p e s m args below meth c T'.heap (locs ++ Lc) ls A C hl
    ⟨by rw [e1]; exact hP1, hD1.weaken (fun _ _ _ h => hF _ h), ⟨Nat.le_trans hS.1 (by rw [e1]; exact hz), fun q h1 h2 => by rw [e1, hk q (Nat.lt_of_lt_of_le h1 hS.1) (fun y => h2 (hF q y))]; exact hS.2.1 q h1 h2, fun q hq => by
      rcases List.mem_append.mp hq with h | h
      · exact hS.2.2 q h
      · exact hF _ (hL q h)⟩⟩ T' rfl S'
  have e3 : smap ad (r.toList ++ st) = (r.map (tv ad)).toList ++ smap ad st := by cases r <;> simp [smap]
  rw [e3] at a1
  exact ⟨t2, sp t2 a1, b1⟩
theorem pcat_sum {ad : AD} {w : Nat} (h : (st.map pcat).sum ≤ w) : ((smap ad st).map fun v => v.category).sum ≤ w := by
  have e : (smap ad st).map (fun v => v.category) = st.map pcat := by simp [smap, tv_cat]
  rw [e]
  exact h
theorem go_callS {Y : MX} {postY : Option PV → Mm → Prop} {idx n : Nat} (av : List PV) (k : Nat) (hk : (xt X)[k]? = some (pc, .invokestatic idx, pc')) (E : Ev l Y av M postY) (hY : Mk Y) (ca : CS (xy X).cls idx Y n) (hn : av.length = n) (hR : Rm X Y) (hst : (st.map pcat).sum ≤ 8) {stk : List PV} (hs : stk = av.reverse ++ st) (g : ∀ r M', postY r M' → Gx l X tg cs pc' L (r.toList ++ st) M') : Gx l X tg cs pc L stk M := by
  intro D ad z p e s m args below meth c H locs ls A C hl hW
  obtain ⟨d, e1⟩ := C.1.at hk
  subst e1
  obtain ⟨c1, c2, c3⟩ := ca
  have hts := C.2.1.2.2.2.2
  have hst2 : (F0 m pc ls (smap ad stk)).stack = (smap ad av).reverse ++ smap ad st := by subst hs; simp [smap]
  have ht : ∀ w, w ∈ WB → w.before args s = true := fun w hw => hts w hw
  have hd := hY.2.2.2.1
  refine go_ret (postY := postY) (a := (smap ad av).toArray) C hl hW ?_ g
  rcases c1 with c1 | ⟨host, c1⟩
  · exact va_runS (n := n) (index := idx) C.2.1 (E D ad z H.size) ⟨callB_of n hts (gi_of hY) rfl hY.2.2.2.2.1 hY.2.2.2.2.2.1 (ht _ hY.2.2.2.2.2.2) (ht _ c1) ⟨hd.1, hd.2, c3⟩ hR, ht _ c2⟩ ⟨preW_blind, fun U hU hWa => ⟨rfl, preW_at C hW hU hWa⟩⟩ rfl (by simpa [smap] using hn) hl.1 hst2 (lv_room (pcat_sum hst)) d C.2.2.2.2.2.2.2.2.1
  · exact va_runSN (n := n) (index := idx) (host := host) C.2.1 (E D ad z H.size) ⟨va_cnB n hts (gi_of hY) rfl hY.2.2.2.2.1 hY.2.2.2.2.2.1 (C.2.2.2.2.1 _ c1) (ht _ hY.2.2.2.2.2.2) ⟨hd.1, hd.2, c3⟩ hR, ht _ c2, trivial⟩ ⟨preW_blind, fun U hU hWa => ⟨rfl, preW_at C hW hU hWa⟩⟩ rfl (by simpa [smap] using hn) hl.1 hst2 (lv_room (pcat_sum hst)) d C.2.2.2.2.2.2.2.2.1
theorem go_callV {Y : MX} {postY : Option PV → Mm → Prop} {idx n kd j : Nat} (av : List PV) (k : Nat) (hk : (xt X)[k]? = some (pc, .invokevirtual idx, pc')) (E : Ev l Y (vr kd j :: av) M postY) (hY : Mk Y) (ho : (kd, j) ∈ allc) (hb : objk kd = true) (ca : CV (xy X).cls idx Y n kd) (hn : av.length = n) (hR : Rm X Y) (hst : (st.map pcat).sum ≤ 8) {stk : List PV} (hs : stk = av.reverse ++ vr kd j :: st) (g : ∀ r M', postY r M' → Gx l X tg cs pc' L (r.toList ++ st) M') : Gx l X tg cs pc L stk M := by
  intro D ad z p e s m args below meth c H locs ls A C hl hW
  obtain ⟨d, e1⟩ := C.1.at hk
  subst e1
  obtain ⟨c1, ⟨c2, c2b⟩, c3, T, N, c4⟩ := ca
  have hts := C.2.1.2.2.2.2
  have hst2 : (F0 m pc ls (smap ad stk)).stack = (smap ad av).reverse ++ .ref (ad (kd, j)) :: smap ad st := by subst hs; simp [smap, tv]
  have ht : ∀ w, w ∈ WB → w.before args s = true := fun w hw => hts w hw
  have hd := hY.2.2.2.1
  obtain ⟨q, hq, -⟩ := wd_at (ad := ad) (z := z) (M := M) ho
  rw [ent_obj hb] at hq
  have hrc := va_recv C.2.2.2.2.2.1 hW.1 c4 hq
  refine go_ret (postY := postY) (a := (Value.ref (ad (kd, j)) :: smap ad av).toArray) C hl hW ?_ g
  rcases c1 with c1 | ⟨host, c1⟩
  · exact va_runV (n := n) (index := idx) (C := (xy Y).cls) (b := ad (kd, j)) C.2.1 (E D ad z H.size) ⟨callB_of n hts (gi_of hY) rfl hY.2.2.2.2.1 hY.2.2.2.2.2.1 (ht _ hY.2.2.2.2.2.2) (ht _ c1) ⟨hd.1, hd.2, c3⟩ hR, ht _ c2, ht _ c2b⟩ ⟨preW_blind, hrc, fun U hU hWa => ⟨rfl, preW_at C hW hU hWa⟩⟩ rfl (by simpa [smap] using hn) hl.1 hst2 (lv_room (pcat_sum hst)) d C.2.2.2.2.2.2.2.2.1
  · exact va_runVN (n := n) (index := idx) (C := (xy Y).cls) (host := host) (b := ad (kd, j)) C.2.1 (E D ad z H.size) ⟨va_cnB n hts (gi_of hY) rfl hY.2.2.2.2.1 hY.2.2.2.2.2.1 (C.2.2.2.2.1 _ c1) (ht _ hY.2.2.2.2.2.2) ⟨hd.1, hd.2, c3⟩ hR, ht _ c2, ht _ c2b⟩ ⟨preW_blind, hrc, fun U hU hWa => ⟨rfl, preW_at C hW hU hWa⟩⟩ rfl (by simpa [smap] using hn) hl.1 hst2 (lv_room (pcat_sum hst)) d C.2.2.2.2.2.2.2.2.1
theorem go_callS1 {Y : MX} {r : Option PV} {M1 : Mm} {idx n : Nat} (av : List PV) (k : Nat) (hk : (xt X)[k]? = some (pc, .invokestatic idx, pc')) (E : Ev l Y av M (fun v M2 => v = r ∧ M2 = M1)) (hY : Mk Y) (ca : CS (xy X).cls idx Y n) (hn : av.length = n) (hR : Rm X Y) (hst : (st.map pcat).sum ≤ 8) {stk : List PV} (hs : stk = av.reverse ++ st) (g : Gx l X tg cs pc' L (r.toList ++ st) M1) : Gx l X tg cs pc L stk M :=
  go_callS av k hk E hY ca hn hR hst hs (fun _ _ h => by rw [h.1, h.2]; exact g)
theorem go_callV1 {Y : MX} {r : Option PV} {M1 : Mm} {idx n kd j : Nat} (av : List PV) (k : Nat) (hk : (xt X)[k]? = some (pc, .invokevirtual idx, pc')) (E : Ev l Y (vr kd j :: av) M (fun v M2 => v = r ∧ M2 = M1)) (hY : Mk Y) (ho : (kd, j) ∈ allc) (hb : objk kd = true) (ca : CV (xy X).cls idx Y n kd) (hn : av.length = n) (hR : Rm X Y) (hst : (st.map pcat).sum ≤ 8) {stk : List PV} (hs : stk = av.reverse ++ vr kd j :: st) (g : Gx l X tg cs pc' L (r.toList ++ st) M1) : Gx l X tg cs pc L stk M :=
  go_callV av k hk E hY ho hb ca hn hR hst hs (fun _ _ h => by rw [h.1, h.2]; exact g)
def uC (M : Mm) (i j : Nat) : Mm := (fun c => if c = (1, j) then va_cpy (M.1 (1, i)) (M.1 (1, j)) 0 0 32 else M.1 c, M.2)
def ACo (own : String) (idx : Nat) : Prop := Cond.methodLink own idx arraycopyName ∈ WB ∧ Cond.native arraycopyName ∈ WB ∧ Cond.static arraycopyName ∈ WB ∧ Cond.initialized "java/lang/System" ∈ WB
theorem go_arraycopy {idx i j : Nat} (k : Nat) (hk : (xt X)[k]? = some (pc, .invokestatic idx, pc')) (hf : ACo (xy X).cls idx) (hi : i < 7) (hj : j < 7) (hfr : 1 ≤ (xm X).frames) (hlo : 0 + (nativeFrameWords "java/lang/System" "arraycopy" 5 + 11) ≤ (xm X).locals) (g : Gx l X tg cs pc' L [] (uC M i j)) : Gx l X tg cs pc L [vi 32, vi 0, vr 1 j, vi 0, vr 1 i] M := by
  intro D ad z p e s m args below meth c H locs ls A C hl hW
  obtain ⟨d, e1⟩ := C.1.at hk
  subst e1
  obtain ⟨q0, hq0, -⟩ := wd_at (ad := ad) (z := z) (M := M) (c := (1, i)) (ok1 (by omega))
  obtain ⟨q1, hq1, hq2⟩ := wd_at (ad := ad) (z := z) (M := M) (c := (1, j)) (ok1 (by omega))
  have hli : lenI i = 32 := if_pos hi
  have hlj : lenI j = 32 := if_pos hj
  have ht : ∀ w, w ∈ WB → w.before args s = true := fun w hw => C.2.1.2.2.2.2 w hw
  have e32 : (32 : Int32).toNatClampNeg = 32 := by decide
  have e0 : (0 : Int32).toNatClampNeg = 0 := by decide
  refine va_copyi (rest := []) (sp := 0) (dp := 0) (n := 32) (ty := .int) C.2.1.1 C.2.1.2.1 (C.2.1.2.2.1.trans hl.1.symm) C.2.1.2.2.2.1 (ht _ hf.1) (ht _ hf.2.1) (ht _ hf.2.2.1) (ht _ hf.2.2.2) C.2.2.2.2.2.1 hW.1 hW.2.1 hW.2.2 q0 q1 0 0 hq0 hq1 rfl rfl rfl (by decide) (by decide) (by decide) (by rw [e32, e0, hli]; omega) (by rw [e32, e0, hlj]; omega) (fun _ _ => rfl) hfr hlo d (fun H1 locs1 g1 g2 g3 => g D ad z p e s m args below meth c H1 locs1 ls A C hl (Hw.set hq2 (fun c' hc => ⟨if_neg hc, rfl⟩) ?_ g1 g2 g3))
  show _ = ent ad z (if (1, j) = (1, j) then va_cpy (M.1 (1, i)) (M.1 (1, j)) 0 0 32 else M.1 (1, j)) (M.2 (1, j)) (1, j)
  rw [if_pos rfl]
  rfl
theorem ret_q {post : Option PV → Mm → Prop} {D : va_G} {ad : AD} {z : Zc} {p : Program} {s : State} {m : MethodId} {args : Array Value} {meth : Method} {c : Code} {H : Heap} {locs : List Loc} {A : Nat → Prop} (C : Cx l X tg cs D ad z p s m args meth c A) (hW : Hw D ad z s A M H locs) (r : Option PV) (hp : post r M) {t : State} (ht : t.heap = H) (hWa : s.WarmedH t.vm) (a : Array Value) : gQ D ad z post A a s (.returned (r.map (tv ad))) t :=
  ⟨⟨r, M, rfl, hp, by rw [ht]; exact hW.1, va_K.moved hWa.alike C.2.2.2.2.2.1, hW.2.1⟩, hW.2.2.F ht⟩
theorem go_ireturn {x : Int32} {ty : FieldType} (k : Nat) (hk : (xt X)[k]? = some (pc, .ireturn, pc')) (hr : xr X = some ty) (hn : narrow ty (.int x) = .int x) (hp : post (some (vi x)) M) : Go l X post pc L [vi x] M := by
  intro D ad z p e s m args below meth c H locs ls A C hl hW
  obtain ⟨d, e1⟩ := C.1.at hk
  exact W.zret (v := x) (ty := ty) C.2.1.1 C.2.1.2.1 (C.2.2.1.trans hr) hn (fun t ht hWa => ret_q C hW (some (vi x)) hp ht hWa _) hW.2.2.2.2 d C.2.2.2.1
theorem go_lreturn {x : Int64} (k : Nat) (hk : (xt X)[k]? = some (pc, .lreturn, pc')) (hr : xr X = some .long) (hp : post (some (vl x)) M) : Go l X post pc L [vl x] M := by
  intro D ad z p e s m args below meth c H locs ls A C hl hW
  obtain ⟨d, e1⟩ := C.1.at hk
  exact W.lret (v := x) C.2.1.1 C.2.1.2.1 (C.2.2.1.trans hr) (fun t ht hWa => ret_q C hW (some (vl x)) hp ht hWa _) hW.2.2.2.2 d C.2.2.2.1
theorem go_areturn {a b : Nat} {rt : FieldType} (k : Nat) (hk : (xt X)[k]? = some (pc, .areturn, pc')) (hr : xr X = some rt) (hrt : (∃ n, rt = .object n) ∨ ∃ t, rt = .array t) (hp : post (some (vr a b)) M) : Go l X post pc L [vr a b] M := by
  intro D ad z p e s m args below meth c H locs ls A C hl hW
  obtain ⟨d, e1⟩ := C.1.at hk
  exact W.aret (v := .ref (ad (a, b))) C.2.1.1 C.2.1.2.1 (C.2.2.1.trans hr) hrt (Or.inr ⟨_, rfl⟩) (fun t ht hWa => ret_q C hW (some (vr a b)) hp ht hWa _) hW.2.2.2.2 d C.2.2.2.1
theorem go_return (k : Nat) (hk : (xt X)[k]? = some (pc, .return_, pc')) (hr : xr X = none) (hp : post none M) : Go l X post pc L [] M := by
  intro D ad z p e s m args below meth c H locs ls A C hl hW
  obtain ⟨d, e1⟩ := C.1.at hk
  exact W.vret C.2.1.1 C.2.1.2.1 (C.2.2.1.trans hr) (fun t ht hWa => ret_q C hW none hp ht hWa _) hW.2.2.2.2 d C.2.2.2.1
end EN
/-! what the mirrors are made of -/
def bd {α β : Type} (o : Option α) (f : α → Option β) : Option β := match o with
  | none => none
  | some a => f a
theorem bd_inv {α β : Type} {o : Option α} {f : α → Option β} {r : β} (h : bd o f = some r) : ∃ a, o = some a ∧ f a = some r := by
  cases o with
  | none => cases h
  | some a => exact ⟨a, rfl, h⟩
theorem bd_some {α β : Type} (a : α) (f : α → Option β) : bd (some a) f = f a := rfl
theorem bd_of {α β : Type} {o : Option α} {f : α → Option β} {a : α} (h : o = some a) : bd o f = f a := by subst h; rfl
def ck {β : Type} (b : Bool) (x : Option β) : Option β := if b = true then x else none
theorem ck_inv {β : Type} {b : Bool} {x : Option β} {r : β} (h : ck b x = some r) : b = true ∧ x = some r := by
  cases b with
  | false => cases h
  | true => exact ⟨rfl, h⟩
theorem ck_of {β : Type} {b : Bool} {x : Option β} (h : b = true) : ck b x = x := by subst h; rfl
def smr {α β γ : Type} (q : α ⊕ β) (g : β → Option γ) (f : α → Option γ) : Option γ := match q with
  | .inl a => f a
  | .inr b => g b
theorem smr_l {α β γ : Type} {a : α} {g : β → Option γ} {f : α → Option γ} {r : Option γ} (h : smr (.inl a) g f = r) : f a = r := h
theorem smr_r {α β γ : Type} {b : β} {g : β → Option γ} {f : α → Option γ} {r : Option γ} (h : smr (.inr b) g f = r) : g b = r := h
def lpq {σ ρ : Type} (f : σ → Option ρ) (q : σ ⊕ ρ) : Option ρ := match q with
  | .inl s => f s
  | .inr r => some r
theorem lpq_r {σ ρ : Type} {f : σ → Option ρ} {r r2 : ρ} (h : lpq f (.inr r) = some r2) : r = r2 := Option.some.inj h
def lpN {σ ρ : Type} (b : σ → Option (σ ⊕ ρ)) : Nat → σ → Option ρ
  | 0, _ => none
  | n + 1, s => bd (b s) (lpq (lpN b n))
theorem lpN_0 {σ ρ : Type} {b : σ → Option (σ ⊕ ρ)} {s : σ} {r : ρ} (h : lpN b 0 s = some r) : False := by
  simp [lpN] at h
theorem lpN_inv {σ ρ : Type} {b : σ → Option (σ ⊕ ρ)} {n : Nat} {s : σ} {r : ρ} (h : lpN b (n + 1) s = some r) : ∃ q, b s = some q ∧ lpq (lpN b n) q = some r := bd_inv h
def lp {σ ρ : Type} (b : σ → Option (σ ⊕ ρ)) (s : σ) : Option ρ := lpN b 1000000 s
theorem ite_t {α : Type} {p : Prop} {i : Decidable p} {a b r : α} (c : p) (h : @ite α p i a b = r) : a = r := by rw [if_pos c] at h; exact h
theorem ite_f {α : Type} {p : Prop} {i : Decidable p} {a b r : α} (c : ¬ p) (h : @ite α p i a b = r) : b = r := by rw [if_neg c] at h; exact h
def inb (i : Int32) (n : Nat) : Bool := !(decide (i < 0) || decide (n ≤ i.toNatClampNeg))
theorem inb_vp {i : Int32} {n : Nat} (h : inb i n = true) : vp_in i n := by
  simp only [inb, Bool.not_eq_true', Bool.or_eq_false_iff, decide_eq_false_iff_not] at h
  intro q
  rcases q with q | q
  · exact h.1 q
  · exact h.2 q
theorem vp_inb {i : Int32} {n : Nat} (h : vp_in i n) : inb i n = true := by
  simp only [inb, Bool.not_eq_true', Bool.or_eq_false_iff, decide_eq_false_iff_not]
  exact ⟨fun q => h (Or.inl q), fun q => h (Or.inr q)⟩
def bI (b : Bool) : Int32 := match b with
  | true => 1
  | false => 0
theorem nbI (b : Bool) : narrow .boolean (.int (bI b)) = .int (bI b) := by cases b <;> rfl
def isb (x : Int32) : Bool := decide (x = 0) || decide (x = 1)
def tb (x : Int32) : Bool := !decide (x = 0)
theorem isb_e {x : Int32} (h : isb x = true) : bI (tb x) = x := by
  simp only [isb, Bool.or_eq_true, decide_eq_true_eq] at h
  rcases h with rfl | rfl <;> rfl
theorem isb_n {x : Int32} (h : isb x = true) : narrow .boolean (.int x) = .int x := by
  simp only [isb, Bool.or_eq_true, decide_eq_true_eq] at h
  rcases h with rfl | rfl <;> rfl
theorem pz {post : Option PV → Mm → Prop} {x y : Int32} {M : Mm} (e : x = y) (h : post (some (vi x)) M) : post (some (vi y)) M := e ▸ h
