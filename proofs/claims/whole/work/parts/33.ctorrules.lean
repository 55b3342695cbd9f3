theorem wk_oi : Cond.instanceMethod Lib.objectInit ∈ WB := wb_23
theorem wk_oc : Cond.code Lib.objectInit ⟨#[0xb1]⟩ 1 none ∈ WB := wb_24
theorem wk_ai : Cond.arrayClass (newarray.typeOf .int) ∈ WB := wb_46
theorem wk_al : Cond.arrayClass (newarray.typeOf .long) ∈ WB := wb_562
/-! constructors: worlds as lists, cells that come -/
def kQ (D : va_G) (z : Zc) (post : va_W → Prop) (A : Nat → Prop) : Array Value → State → Outcome → State → Prop := fun _ st oc t =>
  (∃ ws' : va_W, oc = .returned none ∧ post ws' ∧ va_P D classes ws' t.heap ∧ va_K D classes (tz z) t ∧ va_D A ws') ∧ va_F A st t
def PreK (D : va_G) (z : Zc) (ws : va_W) (sz : Nat) (U : State) : Prop := U.heap.size = sz ∧ va_AO "OmegaDesk$Automaton" U ∧ (∀ w ∈ NW, va_Nw w U) ∧ va_P D classes ws U.heap ∧ va_K D classes (tz z) U ∧ va_D (fun _ => True) ws
def EvK (l : Launch) (X : MX) (D : va_G) (z : Zc) (h0 : Nat) (e0 : va_E) (post : va_W → Prop) : Prop :=
  ∀ sz : Nat, Met l (xy X) (xw X) (xm X) (va_Pc [.ref h0] (PreK D z [(h0, e0)] sz)) (kQ D z post (va_A [(h0, e0)] sz)) (xm X).cells (xm X).slots (va_A [(h0, e0)] sz)
def CxK (X : MX) (D : va_G) (z : Zc) (cs : Nat × Nat) (p : Program) (s : State) (m : MethodId) (args : Array Value) (meth : Method) (c : Code) (A : Nat → Prop) : Prop :=
  TBk (xc X) (xt X) ∧ CallFix p m c (xc X) (xn X) s args WB (xy X).cls ∧ va_AO "OmegaDesk$Automaton" s ∧ (∀ w ∈ NW, va_Nw w s) ∧ va_K D classes (tz z) s ∧ (∀ q, s.heap.size ≤ q → A q) ∧ ((xy X).name = "<init>" → meth.name = "<init>") ∧ (cs.1 ≤ (xm X).cells ∧ cs.2 ≤ (xm X).slots)
/-- the target is any predicate of the end -/
def Gk (l : Launch) (X : MX) (D : va_G) (z : Zc) (A : Nat → Prop) (p : Program) (e : Env) (s : State) (m : MethodId) (args : Array Value) (below : List Frame) (meth : Method) (c : Code) (Q : State → Prop) (cs : Nat × Nat) (pc : Nat) (L : List (Nat × Value)) (st : List Value) (ws : va_W) : Prop :=
  ∀ (H : Heap) (locs : List Loc) (ls : Array Slot), (cs.1 ≤ (xm X).cells ∧ cs.2 ≤ (xm X).slots) → lv_has ls (xn X) L → va_P D classes ws H → va_D A ws → va_S A s.heap H locs → W p l e (xm X) s m args below meth c H locs cs.1 cs.2 Q (F0 m pc ls st)
section GK
variable {l : Launch} {X : MX} {D : va_G} {z : Zc} {A : Nat → Prop} {p : Program} {e : Env} {s : State} {m : MethodId} {args : Array Value} {below : List Frame} {meth : Method} {c : Code} {Q : State → Prop} {cs cs' : Nat × Nat} {c0 : Nat × Nat} {pc pc' : Nat} {L : List (Nat × Value)} {st : List Value} {ws : va_W}
theorem k_aload0 (C : CxK X D z c0 p s m args meth c A) {x : Nat} {n : Fin 4} {i : Nat} (k : Nat) (hk : (xt X)[k]? = some (pc, .aload_n n, pc')) (j : Nat) (hj : L[j]? = some (i, .ref x)) (hn : (n : Nat) = i) (g : Gk l X D z A p e s m args below meth c Q cs pc' L (.ref x :: st) ws) : Gk l X D z A p e s m args below meth c Q cs pc L st ws := by
  intro H locs ls hr hl hP hD hS
  obtain ⟨d, e1⟩ := C.1.at hk
  subst e1
  exact lv_aload_n C.2.1.1 C.2.1.2.1 d hn (lv_at hl j hj) (g H locs ls hr hl hP hD hS)
theorem k_iload (C : CxK X D z c0 p s m args meth c A) {x : Int32} {n : Fin 4} {i : Nat} (k : Nat) (hk : (xt X)[k]? = some (pc, .iload_n n, pc')) (j : Nat) (hj : L[j]? = some (i, .int x)) (hn : (n : Nat) = i) (g : Gk l X D z A p e s m args below meth c Q cs pc' L (.int x :: st) ws) : Gk l X D z A p e s m args below meth c Q cs pc L st ws := by
  intro H locs ls hr hl hP hD hS
  obtain ⟨d, e1⟩ := C.1.at hk
  subst e1
  exact lv_iload_n C.2.1.1 C.2.1.2.1 d hn (lv_at hl j hj) (g H locs ls hr hl hP hD hS)
theorem k_istore (C : CxK X D z c0 p s m args meth c A) {x : Int32} {n : Fin 4} {i : Nat} (k : Nat) (hk : (xt X)[k]? = some (pc, .istore_n n, pc')) (hn : (n : Nat) = i) (hi : i < xn X) (L' : List (Nat × Value)) (hL : (i, Value.int x) :: L.filter (fun q => !(q.1 == i) && !(q.1 + 1 == i && q.2.category == 2)) = L') (g : Gk l X D z A p e s m args below meth c Q cs pc' L' st ws) : Gk l X D z A p e s m args below meth c Q cs pc L (.int x :: st) ws := by
  intro H locs ls hr hl hP hD hS
  obtain ⟨d, e1⟩ := C.1.at hk
  subst e1
  exact lv_istore_n C.2.1.1 C.2.1.2.1 d hn hl hi hL (fun ls2 h2 => g H locs ls2 hr h2 hP hD hS)
theorem k_istoreW (C : CxK X D z c0 p s m args meth c A) {x : Int32} {i : Nat} (k : Nat) (hk : (xt X)[k]? = some (pc, .istore i, pc')) (hi : i < xn X) (L' : List (Nat × Value)) (hL : (i, Value.int x) :: L.filter (fun q => !(q.1 == i) && !(q.1 + 1 == i && q.2.category == 2)) = L') (g : Gk l X D z A p e s m args below meth c Q cs pc' L' st ws) : Gk l X D z A p e s m args below meth c Q cs pc L (.int x :: st) ws := by
  intro H locs ls hr hl hP hD hS
  obtain ⟨d, e1⟩ := C.1.at hk
  subst e1
  exact lv_istore C.2.1.1 C.2.1.2.1 d hl hi hL (fun ls2 h2 => g H locs ls2 hr h2 hP hD hS)
theorem k_astore (C : CxK X D z c0 p s m args meth c A) {x : Nat} {n : Fin 4} {i : Nat} (k : Nat) (hk : (xt X)[k]? = some (pc, .astore_n n, pc')) (hn : (n : Nat) = i) (hi : i < xn X) (L' : List (Nat × Value)) (hL : (i, Value.ref x) :: L.filter (fun q => !(q.1 == i) && !(q.1 + 1 == i && q.2.category == 2)) = L') (g : Gk l X D z A p e s m args below meth c Q cs pc' L' st ws) : Gk l X D z A p e s m args below meth c Q cs pc L (.ref x :: st) ws := by
  intro H locs ls hr hl hP hD hS
  obtain ⟨d, e1⟩ := C.1.at hk
  subst e1
  exact lv_astore_n C.2.1.1 C.2.1.2.1 d hn hl hi hL (fun ls2 h2 => g H locs ls2 hr h2 hP hD hS)
theorem k_iinc (C : CxK X D z c0 p s m args meth c A) {x v : Int32} {i : Nat} {n : Int} (k : Nat) (hk : (xt X)[k]? = some (pc, .iinc i n, pc')) (j : Nat) (hj : L[j]? = some (i, .int x)) (hv : x + Int32.ofInt n = v) (hi : i < xn X) (L' : List (Nat × Value)) (hL : (i, Value.int v) :: L.filter (fun q => !(q.1 == i) && !(q.1 + 1 == i && q.2.category == 2)) = L') (g : Gk l X D z A p e s m args below meth c Q cs pc' L' st ws) : Gk l X D z A p e s m args below meth c Q cs pc L st ws := by
  intro H locs ls hr hl hP hD hS
  obtain ⟨d, e1⟩ := C.1.at hk
  subst e1
  exact lv_iinc C.2.1.1 C.2.1.2.1 d hl hj hv hi hL (fun ls2 h2 => g H locs ls2 hr h2 hP hD hS)
theorem k_goto (C : CxK X D z c0 p s m args meth c A) {off : Int} (tgt : Nat) (k : Nat) (hk : (xt X)[k]? = some (pc, .goto off, pc')) (ht : (pc : Int) + off = (tgt : Int)) (g : Gk l X D z A p e s m args below meth c Q cs tgt L st ws) : Gk l X D z A p e s m args below meth c Q cs pc L st ws := by
  intro H locs ls hr hl hP hD hS
  obtain ⟨d, e1⟩ := C.1.at hk
  exact lv_goto C.2.1.1 C.2.1.2.1 d ht (g H locs ls hr hl hP hD hS)
theorem k_icmp_ge (C : CxK X D z c0 p s m args meth c A) {x y : Int32} {off : Int} (tgt : Nat) (k : Nat) (hk : (xt X)[k]? = some (pc, .if_icmp .ge off, pc')) (ht : (pc : Int) + off = (tgt : Int)) (kt : y ≤ x → Gk l X D z A p e s m args below meth c Q cs tgt L st ws) (kf : ¬ y ≤ x → Gk l X D z A p e s m args below meth c Q cs pc' L st ws) : Gk l X D z A p e s m args below meth c Q cs pc L (.int y :: .int x :: st) ws := by
  intro H locs ls hr hl hP hD hS
  obtain ⟨d, e1⟩ := C.1.at hk
  subst e1
  exact lv_icmp_ge C.2.1.1 C.2.1.2.1 d ht (fun h => kt h H locs ls hr hl hP hD hS) (fun h => kf h H locs ls hr hl hP hD hS)
theorem k_iconst (C : CxK X D z c0 p s m args meth c A) {n : Int} (v : Int32) (k : Nat) (hk : (xt X)[k]? = some (pc, .iconst n, pc')) (hv : Int32.ofInt n = v) (g : Gk l X D z A p e s m args below meth c Q cs pc' L (.int v :: st) ws) : Gk l X D z A p e s m args below meth c Q cs pc L st ws := by
  intro H locs ls hr hl hP hD hS
  obtain ⟨d, e1⟩ := C.1.at hk
  subst e1
  exact lv_iconst C.2.1.1 C.2.1.2.1 d hv (g H locs ls hr hl hP hD hS)
theorem k_bipush (C : CxK X D z c0 p s m args meth c A) {n : Int} (v : Int32) (k : Nat) (hk : (xt X)[k]? = some (pc, .bipush n, pc')) (hv : (Int8.ofInt n).toInt32 = v) (g : Gk l X D z A p e s m args below meth c Q cs pc' L (.int v :: st) ws) : Gk l X D z A p e s m args below meth c Q cs pc L st ws := by
  intro H locs ls hr hl hP hD hS
  obtain ⟨d, e1⟩ := C.1.at hk
  subst e1
  exact lv_bipush C.2.1.1 C.2.1.2.1 d hv (g H locs ls hr hl hP hD hS)
theorem k_sipush (C : CxK X D z c0 p s m args meth c A) {n : Int} (v : Int32) (k : Nat) (hk : (xt X)[k]? = some (pc, .sipush n, pc')) (hv : (Int16.ofInt n).toInt32 = v) (g : Gk l X D z A p e s m args below meth c Q cs pc' L (.int v :: st) ws) : Gk l X D z A p e s m args below meth c Q cs pc L st ws := by
  intro H locs ls hr hl hP hD hS
  obtain ⟨d, e1⟩ := C.1.at hk
  subst e1
  exact lv_sipush C.2.1.1 C.2.1.2.1 d hv (g H locs ls hr hl hP hD hS)
theorem k_dup (C : CxK X D z c0 p s m args meth c A) {x : Nat} (k : Nat) (hk : (xt X)[k]? = some (pc, .dup, pc')) (g : Gk l X D z A p e s m args below meth c Q cs pc' L (.ref x :: .ref x :: st) ws) : Gk l X D z A p e s m args below meth c Q cs pc L (.ref x :: st) ws := by
  intro H locs ls hr hl hP hD hS
  obtain ⟨d, e1⟩ := C.1.at hk
  subst e1
  exact lv_dup C.2.1.1 C.2.1.2.1 d rfl (g H locs ls hr hl hP hD hS)
theorem k_objinit (C : CxK X D z c0 p s m args meth c A) {x idx : Nat} (k : Nat) (hk : (xt X)[k]? = some (pc, .invokespecial idx, pc')) (hlk : Cond.methodLink (xy X).cls idx Lib.objectInit ∈ WB) (hfr : 1 ≤ (xm X).frames) (hlo : (st.map fun v => v.category).sum + 12 ≤ (xm X).locals) (g : Gk l X D z A p e s m args below meth c Q cs pc' L st ws) : Gk l X D z A p e s m args below meth c Q cs pc L (.ref x :: st) ws := by
  intro H locs ls hr hl hP hD hS
  obtain ⟨d, e1⟩ := C.1.at hk
  subst e1
  have hts := C.2.1.2.2.2.2
  exact W.objInit (g := F0 m pc ls (.ref x :: st)) (rest := st) C.2.1.1 C.2.1.2.1 C.2.1.2.2.2.1 (hts _ hlk) (hts _ wk_oi) (hts _ wk_oc) rfl (hl.1.trans C.2.1.2.2.1.symm) rfl d hfr (by show 0 + _ + 12 ≤ _; omega) (g H locs ls hr hl hP hD hS)
theorem ka_eq {tys : List (ClassId × FieldType)} {ty : FieldType} {c1 c2 : ClassId} {a b : Nat} (hty : ty = .int ∨ ty = .long) (hK : va_K D classes tys s) (h1 : tys[a]? = some (c1, ty)) (h2 : tys[b]? = some (c2, ty)) : c1 = c2 := by
  have r1 := (hK.2 a _ h1).2
  have r2 := (hK.2 b _ h2).2
  rcases hty with rfl | rfl <;> exact Option.some.inj (r1.symm.trans r2)
theorem ka_eqO {tys : List (ClassId × FieldType)} {Cn : String} {c1 c2 : ClassId} {a b : Nat} (hK : va_K D classes tys s) (h1 : tys[a]? = some (c1, .object Cn)) (h2 : tys[b]? = some (c2, .object Cn)) : c1 = c2 := by
  obtain ⟨-, -, -, -, -, r1⟩ := (hK.2 a _ h1).2
  obtain ⟨-, -, -, -, -, r2⟩ := (hK.2 b _ h2).2
  exact Option.some.inj (r1.symm.trans r2)
theorem k_newi (C : CxK X D z c0 p s m args meth c A) {n : Int32} (N : Nat) (k : Nat) (hk : (xt X)[k]? = some (pc, .newarray .int, pc')) (hn : ¬ n < 0) (hN : n.toNatClampNeg = N) (hb : N * componentBytes .int ≤ 536870912) (cs' : Nat × Nat) (hcs : (cs.1 + 1, cs.2 + N) = cs') (hR : cs'.1 ≤ (xm X).cells ∧ cs'.2 ≤ (xm X).slots) (g : ∀ q : Nat, Gk l X D z A p e s m args below meth c Q cs' pc' L (.ref q :: st) (ws ++ [(q, .inl (z.1, N, .inl (fun _ => 0)))])) : Gk l X D z A p e s m args below meth c Q cs pc L (.int n :: st) ws := by
  subst hcs
  intro H locs ls hr hl hP hD hS
  obtain ⟨d, e1⟩ := C.1.at hk
  subst e1
  refine va_newa (atype := .int) (ty := .int) (N' := N) (a0 := (N, .inl (fun _ => 0))) C.2.1.1 C.2.1.2.1 (C.2.1.2.2.2.2 _ wk_ai) rfl C.2.2.2.2.1 hP hD hS C.2.2.2.2.2.1 (fun _ => rfl) hn hN hb hR.1 hR.2 d (fun q cA H1 hK1 hP1 hD1 hS1 => ?_)
  obtain rfl : z.1 = cA := ka_eq (Or.inl rfl) hK1 (a := 0) (b := 3) rfl rfl
  exact g q H1 locs ls hR hl hP1 hD1 hS1
theorem k_newl (C : CxK X D z c0 p s m args meth c A) {n : Int32} (N : Nat) (k : Nat) (hk : (xt X)[k]? = some (pc, .newarray .long, pc')) (hn : ¬ n < 0) (hN : n.toNatClampNeg = N) (hb : N * componentBytes .long ≤ 536870912) (cs' : Nat × Nat) (hcs : (cs.1 + 1, cs.2 + N) = cs') (hR : cs'.1 ≤ (xm X).cells ∧ cs'.2 ≤ (xm X).slots) (g : ∀ q : Nat, Gk l X D z A p e s m args below meth c Q cs' pc' L (.ref q :: st) (ws ++ [(q, .inl (z.2.1, N, .inr (.inl (fun _ => 0))))])) : Gk l X D z A p e s m args below meth c Q cs pc L (.int n :: st) ws := by
  subst hcs
  intro H locs ls hr hl hP hD hS
  obtain ⟨d, e1⟩ := C.1.at hk
  subst e1
  refine va_newa (atype := .long) (ty := .long) (N' := N) (a0 := (N, .inr (.inl (fun _ => 0)))) C.2.1.1 C.2.1.2.1 (C.2.1.2.2.2.2 _ wk_al) rfl C.2.2.2.2.1 hP hD hS C.2.2.2.2.2.1 (fun _ => rfl) hn hN hb hR.1 hR.2 d (fun q cA H1 hK1 hP1 hD1 hS1 => ?_)
  obtain rfl : z.2.1 = cA := ka_eq (Or.inr rfl) hK1 (a := 1) (b := 3) rfl rfl
  exact g q H1 locs ls hR hl hP1 hD1 hS1
theorem k_newq (C : CxK X D z c0 p s m args meth c A) {n : Int32} {idx : Nat} (N : Nat) (k : Nat) (hk : (xt X)[k]? = some (pc, .anewarray idx, pc')) (hlk : Cond.classLink (xy X).cls idx "OmegaDesk$Automaton" ∈ WB) (hn : ¬ n < 0) (hN : n.toNatClampNeg = N) (hb : N * 4 ≤ 536870912) (cs' : Nat × Nat) (hcs : (cs.1 + 1, cs.2 + N) = cs') (hR : cs'.1 ≤ (xm X).cells ∧ cs'.2 ≤ (xm X).slots) (g : ∀ q : Nat, Gk l X D z A p e s m args below meth c Q cs' pc' L (.ref q :: st) (ws ++ [(q, .inl (z.2.2, N, .inr (.inr (.inr (.inr (fun _ => none))))))])) : Gk l X D z A p e s m args below meth c Q cs pc L (.int n :: st) ws := by
  subst hcs
  intro H locs ls hr hl hP hD hS
  obtain ⟨d, e1⟩ := C.1.at hk
  subst e1
  refine va_newq (N' := N) C.2.1.1 C.2.1.2.1 C.2.1.2.2.2.1 (C.2.1.2.2.2.2 _ hlk) C.2.2.1 C.2.2.2.2.1 hP hD hS C.2.2.2.2.2.1 hn hN hb hR.1 hR.2 d (fun q cA H1 hK1 hP1 hD1 hS1 => ?_)
  obtain rfl : z.2.2 = cA := ka_eqO hK1 (a := 2) (b := 3) rfl rfl
  exact g q H1 locs ls hR hl hP1 hD1 hS1
theorem k_new (C : CxK X D z c0 p s m args meth c A) {Cn : String} {T : u_T} {N ci idx : Nat} (fs : List Value) (ty : Nat → FieldType) (k : Nat) (hk : (xt X)[k]? = some (pc, .new idx, pc')) (hin : ∀ w ∈ u_ws Cn T N, w ∈ WB) (hty : ∀ k, k < N → parseFieldDescriptor (T k).2.2.1 = some (ty k)) (hlk : Cond.classLink (xy X).cls idx Cn ∈ WB) (hins : Cond.instantiable Cn N ∈ WB) (hini : Cond.initialized Cn ∈ WB) (hc : classes[ci]? = some (Cn, T, N)) (hfs : ∀ j, j < N → defaultValue (ty j) = vp_V fs j) (cs' : Nat × Nat) (hcs : (cs.1 + 1, cs.2 + N) = cs') (hR : cs'.1 ≤ (xm X).cells ∧ cs'.2 ≤ (xm X).slots) (g : ∀ q : Nat, Gk l X D z A p e s m args below meth c Q cs' pc' L (.ref q :: st) (ws ++ [(q, .inr (ci, fs))])) : Gk l X D z A p e s m args below meth c Q cs pc L st ws := by
  subst hcs
  intro H locs ls hr hl hP hD hS
  obtain ⟨d, e1⟩ := C.1.at hk
  subst e1
  have hts := C.2.1.2.2.2.2
  exact va_new C.2.1.1 C.2.1.2.1 hts hin ty hty C.2.1.2.2.2.1 (hts _ hlk) (hts _ hins) (hts _ hini) C.2.2.2.2.1 hP hD hS C.2.2.2.2.2.1 hc hfs hR.1 hR.2 d (fun q H1 hP1 hD1 hS1 => g q H1 locs ls hR hl hP1 hD1 hS1)
theorem k_put (C : CxK X D z c0 p s m args meth c A) {Cn : String} {T : u_T} {N ci idx a : Nat} {v : Value} {fs : List Value} (q0 slot : Nat) (ty0 : Nat → FieldType) (ty : FieldType) (k : Nat) (hk : (xt X)[k]? = some (pc, .putfield idx, pc')) (he : ws[q0]? = some (a, .inr (ci, fs))) (hin : ∀ w ∈ u_ws Cn T N, w ∈ WB) (hty : ∀ k, k < N → parseFieldDescriptor (T k).2.2.1 = some (ty0 k)) (hnm : ∀ a, a < N → ∀ b, b < N → a ≠ b → (T a).2.1 ≠ (T b).2.1) (hc : classes[ci]? = some (Cn, T, N)) (hs : slot < N) (hlk : Cond.fieldLink (xy X).cls idx (T slot).1 (T slot).2.1 (T slot).2.2.1 ∈ WB) (hini : (xy X).name = "<init>") (hdc : (T slot).1 = (xy X).cls) (hd : parseFieldDescriptor (T slot).2.2.1 = some ty) (hn : narrow ty v = v) (hf : fits ty v = true) (hln : slot < fs.length) (ws' : va_W) (hw : ws.set q0 (a, .inr (ci, fs.set slot v)) = ws') (g : Gk l X D z A p e s m args below meth c Q cs pc' L st ws') : Gk l X D z A p e s m args below meth c Q cs pc L (v :: .ref a :: st) ws := by
  subst hw
  intro H locs ls hr hl hP hD hS
  obtain ⟨d, e1⟩ := C.1.at hk
  subst e1
  have hts := C.2.1.2.2.2.2
  cases hfin : (T slot).2.2.2 with
  | false => exact va_put C.2.1.1 C.2.1.2.1 hts hin ty0 hty hnm C.2.1.2.2.2.1 C.2.2.2.2.1 hP hD hS q0 he hc slot hs (hts _ hlk) (fun _ h9 => h9) hfin hd hn hf hln d (fun H1 locs1 g1 g2 g3 => g H1 locs1 ls hr hl g1 g2 g3)
  | true => exact va_putF C.2.1.1 C.2.1.2.1 hts hin ty0 hty hnm C.2.1.2.2.2.1 C.2.2.2.2.1 hP hD hS q0 he hc slot hs (hts _ hlk) (fun _ h9 => h9) hfin (C.2.2.2.2.2.2.1 hini) hdc hd hn hf hln d (fun H1 locs1 g1 g2 g3 => g H1 locs1 ls hr hl g1 g2 g3)
theorem k_get (C : CxK X D z c0 p s m args meth c A) {Cn : String} {T : u_T} {N ci idx a : Nat} {v : Value} {fs : List Value} (q0 slot : Nat) (k : Nat) (hk : (xt X)[k]? = some (pc, .getfield idx, pc')) (he : ws[q0]? = some (a, .inr (ci, fs))) (hin : ∀ w ∈ u_ws Cn T N, w ∈ WB) (hc : classes[ci]? = some (Cn, T, N)) (hs : slot < N) (hlk : Cond.fieldLink (xy X).cls idx (T slot).1 (T slot).2.1 (T slot).2.2.1 ∈ WB) (hv : fs[slot]? = some v) (g : Gk l X D z A p e s m args below meth c Q cs pc' L (v :: st) ws) : Gk l X D z A p e s m args below meth c Q cs pc L (.ref a :: st) ws := by
  intro H locs ls hr hl hP hD hS
  obtain ⟨d, e1⟩ := C.1.at hk
  subst e1
  have hts := C.2.1.2.2.2.2
  exact va_get C.2.1.1 C.2.1.2.1 hts hin C.2.1.2.2.2.1 C.2.2.2.2.1 hP q0 he hc slot hs (hts _ hlk) (fun _ h9 => h9) hv d (g H locs ls hr hl hP hD hS)
theorem k_aastore (C : CxK X D z c0 p s m args meth c A) {i : Int32} {n v a : Nat} {vs : List Value} {f : Nat → Option Nat} (q0 qk : Nat) (k : Nat) (hk : (xt X)[k]? = some (pc, .aastore, pc')) (ha : ws[q0]? = some (a, .inl (z.2.2, n, .inr (.inr (.inr (.inr f)))))) (hv : ws[qk]? = some (v, .inr (0, vs))) (hin : vp_in i n) (ws' : va_W) (hw : ws.set q0 (a, .inl (z.2.2, n, .inr (.inr (.inr (.inr (va_up f i.toNatClampNeg (some v))))))) = ws') (g : Gk l X D z A p e s m args below meth c Q cs pc' L st ws') : Gk l X D z A p e s m args below meth c Q cs pc L (.ref v :: .int i :: .ref a :: st) ws := by
  subst hw
  intro H locs ls hr hl hP hD hS
  obtain ⟨d, e1⟩ := C.1.at hk
  subst e1
  exact va_astq (r := (R_A, F_A, 3)) C.2.1.1 C.2.1.2.1 C.2.2.2.2.1 hP hD hS q0 2 qk 0 ha rfl hv rfl hin d (fun H1 locs1 g1 g2 g3 => g H1 locs1 ls hr hl g1 g2 g3)
theorem preK_blind {av : List Value} {sz : Nat} {w : va_W} : FrameBlind (va_Pc av (PreK D z w sz)) := by
  intro a U g mk q
  obtain ⟨q0, q1, q9, q2, q3, q4, q5⟩ := q
  exact ⟨q0, q1, va_AO.moved (u := U) (U := U.calling g mk a) (Vm.Alike.refl U.vm) q9, nw_same (s := U) (U := U.calling g mk a) rfl q2, q3, va_K.moved (u := U) (U := U.calling g mk a) (Vm.Alike.refl U.vm) q4, q5⟩
theorem k_callI (C : CxK X D z c0 p s m args meth c A) {Y : MX} {q idx : Nat} {e0 : va_E} {postY : va_W → Prop} (k0 : Nat) (isR : List Nat) (wr : va_W) (k : Nat) (hk : (xt X)[k]? = some (pc, .invokespecial idx, pc')) (E : EvK l Y D z q e0 postY) (hY : MkX Y) (hlk : CL (xy X).cls idx Y) (hnm : (xy Y).name = "<init>") (hrt : xr Y = none) (hins : Cond.instanceMethod (xy Y) ∈ WB) (hpd : (parseMethodDescriptor (xy Y).desc).map (fun d => d.parameters.length) = some 0) (hR : Rm X Y) (hst : (st.map fun v => v.category).sum ≤ 8) (hk0 : ws[k0]? = some (q, e0)) (hwr : isR.map (fun i => ws[i]?) = wr.map some) (hnd : va_nd isR = true) (hdis : ∀ i ∈ isR, i ∉ [k0]) (cs' : Nat × Nat) (hcs : (cs.1 + (xm Y).cells, cs.2 + (xm Y).slots) = cs') (hRm : cs'.1 ≤ (xm X).cells ∧ cs'.2 ≤ (xm X).slots) (g : ∀ w1, postY w1 → Gk l X D z A p e s m args below meth c Q cs' pc' L st (wr ++ w1)) : Gk l X D z A p e s m args below meth c Q cs pc L (.ref q :: st) ws := by
  subst hcs
  intro H locs ls hr hl hP hD hS
  obtain ⟨d, e1⟩ := C.1.at hk
  subst e1
  have hts := C.2.1.2.2.2.2
  have hd := hY.2.2.2.1
  have hPc : va_P D classes [(q, e0)] H := hP.sub [k0] (by simp [hk0])
  have hDc : va_D A [(q, e0)] := hD.sub [k0] rfl (by simp [hk0])
  have hF := va_free (wc := [(q, e0)]) hD hS C.2.2.2.2.2.1 [k0] (by simp [hk0])
  have hpre : PreS s H (va_Pc [.ref q] (PreK D z [(q, e0)] H.size)) [.ref q] := ⟨preK_blind, fun U hU hWa => ⟨rfl, by rw [hU], va_AO.moved hWa.alike C.2.2.1, nw_warm hWa C.2.2.2.1, by rw [hU]; exact hPc, va_K.moved hWa.alike C.2.2.2.2.1, hDc.weaken (fun _ _ _ _ => trivial)⟩⟩
  have hE := E H.size
  have hrun : va_Run p l e (xm X) s m args below meth c H locs cs.1 cs.2 (xm Y).cells (xm Y).slots (F0 m pc ls (.ref q :: st)) st (kQ D z postY (va_A [(q, e0)] H.size) [Value.ref q].toArray) (va_A [(q, e0)] H.size) := by
    rcases hlk with c1 | ⟨host, c1⟩
    · refine va_runI (n := 0) (index := idx) (As := []) (b := q) (bytes := xc Y) (maxL := xn Y) C.2.1 hE ⟨?_, hnm, hts _ hins⟩ hpre rfl rfl hl.1 rfl (lv_room hst) d hRm
      have h9 := callB_of (R := xm X) (s := s) (args := args) (own := (xy X).cls) (index := idx) (mc := (xm Y).cells) (ms := (xm Y).slots) 0 hts (gi_ofX hY) rfl rfl rfl (hts _ hY.2.2.2.2) (hts _ c1) ⟨hd.1, hd.2, hpd⟩ hR
      rw [hrt] at h9
      exact h9
    · refine va_runIN (n := 0) (index := idx) (host := host) (As := []) (b := q) (bytes := xc Y) (maxL := xn Y) C.2.1 hE ⟨?_, hnm, hts _ hins⟩ hpre rfl rfl hl.1 rfl (lv_room hst) d hRm
      have h9 := va_cnB (R := xm X) (s := s) (args := args) (own := (xy X).cls) (index := idx) (mc := (xm Y).cells) (ms := (xm Y).slots) 0 hts (gi_ofX hY) rfl rfl rfl (C.2.2.2.1 _ c1) (hts _ hY.2.2.2.2) ⟨hd.1, hd.2, hpd⟩ hR
      rw [hrt] at h9
      exact h9
  intro T hT S
  obtain ⟨v, st0, t, T', Lc, h0, S', hL, e1, e2, ⟨⟨w1, hv, hp, hP1, hK1, hD1⟩, hFr⟩, sp⟩ := hrun T hT S
  have hv2 : v = none := by injection hv
  subst hv2
  obtain ⟨k1, k2, k3⟩ := vx_keep h0 e1 hS (fun q _ h => hF q h) hF hL hFr
  obtain ⟨hPj, hDj⟩ := va_join (wr := wr) (w1 := w1) (wc := [(q, e0)]) hP hD [k0] isR (by simp [hk0]) hwr hnd hdis k2 hF (by rw [e1]; exact hP1) hD1
  obtain ⟨t2, a1, b1⟩ := g w1 hp T'.heap (locs ++ Lc) ls hRm hl hPj hDj k3 T' rfl S'
  exact ⟨t2, sp t2 a1, b1⟩
end GK
theorem EvK.of {l : Launch} {X : MX} {D : va_G} {z : Zc} {h0 : Nat} {e0 : va_E} {post : va_W → Prop} (hX : MkX X) (hn : 1 ≤ xn X) (g : ∀ (A : Nat → Prop) (p : Program) (e : Env) (s : State) (m : MethodId) (args : Array Value) (below : List Frame) (meth : Method) (c : Code), CxK X D z (0, 0) p s m args meth c A → meth.sig.returnType = xr X → meth.locks = false → Gk l X D z A p e s m args below meth c (MQ below (kQ D z post A) args s (xm X).cells (xm X).slots A) (0, 0) 0 [(0, .ref h0)] [] [(h0, e0)]) : EvK l X D z h0 e0 post := by
  intro sz
  refine Met.ofW (cc := xc X) (maxL := xn X) (ret := xr X) hX.2.1 rfl ?_
  intro p e s m args below meth c s₁ B hml hv
  obtain ⟨rfl, hsz, hO, hN, hP, hK, hD0⟩ := hv
  subst hsz
  have hts := atoms_spec (ws := xw X) B.pre
  have hl := lv_entry [.ref h0] (n := xn X) hn
  rw [lg_entry_eq]
  generalize (lg_sl [.ref h0] ++ List.replicate (xn X - (lg_sl [.ref h0]).length) Slot.unset).toArray = ls at hl ⊢
  exact g (va_A [(h0, e0)] s.heap.size) p e s m _ below meth c ⟨hX.1, ⟨B.exec, B.bytes, hml, findClass_of_methodNamed B.named, fun w hw => hts w (List.mem_cons_of_mem _ hw)⟩, hO, hN, hK, fun q h => Or.inr h, fun h9 => (name_of_methodNamed B.named B.method).1.trans h9, ⟨Nat.zero_le _, Nat.zero_le _⟩⟩ B.returns B.notSynchronized s.heap [] ls ⟨Nat.zero_le _, Nat.zero_le _⟩ hl hP hD0.self va_S.rf
theorem k_ret {l : Launch} {X : MX} {D : va_G} {z : Zc} {A : Nat → Prop} {p : Program} {e : Env} {s : State} {m : MethodId} {args : Array Value} {below : List Frame} {meth : Method} {c : Code} {cs c0 : Nat × Nat} {pc pc' : Nat} {L : List (Nat × Value)} {ws : va_W} {post : va_W → Prop} (C : CxK X D z c0 p s m args meth c A) (k : Nat) (hk : (xt X)[k]? = some (pc, .return_, pc')) (hr : meth.sig.returnType = none) (hlk : meth.locks = false) (hp : post ws) : Gk l X D z A p e s m args below meth c (MQ below (kQ D z post A) args s (xm X).cells (xm X).slots A) cs pc L [] ws := by
  intro H locs ls hR hl hP hD hS
  obtain ⟨d, -⟩ := C.1.at hk
  exact W.widen hR.1 hR.2 (W.vret C.2.1.1 C.2.1.2.1 hr (fun t ht hWa => ⟨⟨ws, rfl, hp, by rw [ht]; exact hP, va_K.moved hWa.alike C.2.2.2.2.1, hD⟩, hS.F ht⟩) hS.2.2 d hlk)
