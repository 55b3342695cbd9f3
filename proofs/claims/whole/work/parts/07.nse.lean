/-! NoSuchElementException: its constructor's link to the one above has another place than the usual one, so its chain is put together here -/
def nseC : String := "java/util/NoSuchElementException"
def rteC : String := "java/lang/RuntimeException"
def nse13 : ByteArray := ⟨#[0x2a, 0x2b, 0xb7, 0x00, 0x0d, 0xb1]⟩
def nseAt (own : String) (ic : Nat) : List Cond :=
  Bundle.throwableAtoms ++ Bundle.throwableSAtoms ++ Bundle.passSAtoms nseC rteC 13 nse13 ++ Bundle.chainSAtoms rteC ["java/lang/Exception"] ++
  [.methodLink own ic (Bundle.initS nseC), .instantiable nseC 6, .castable nseC nseC, .selects nseC Bundle.tFill0 Bundle.tFill0, .selects nseC Bundle.tFill Bundle.tFill,
   .lays nseC Bundle.tN "cause" "Ljava/lang/Throwable;", .lays nseC Bundle.tN "stackTrace" Bundle.steD, .lays nseC Bundle.tN "suppressedExceptions" Bundle.listD, .lays nseC Bundle.tN "detailMessage" "Ljava/lang/String;",
   .isRef (.static Bundle.tN "UNASSIGNED_STACK" Bundle.steD), .isRef (.static Bundle.tN "SUPPRESSED_SENTINEL" Bundle.listD),
   .fieldLink Bundle.tN 198 Bundle.tN "backtrace" "Ljava/lang/Object;", .lays Bundle.tN Bundle.tN "backtrace" "Ljava/lang/Object;", .lays nseC Bundle.tN "backtrace" "Ljava/lang/Object;"]
theorem n13_0 : decode nse13 0 = .ok (.aload_n 0, 1) := by decide +kernel
theorem n13_1 : decode nse13 1 = .ok (.aload_n 1, 1) := by decide +kernel
theorem n13_2 : decode nse13 2 = .ok (.invokespecial 13, 3) := by decide +kernel
theorem n13_5 : decode nse13 5 = .ok (.return_, 1) := by decide +kernel
theorem nse_chain {args : Array Value} {s : State} {pl : Platform} (hpl : pl.magicAccessors = ({} : Platform).magicAccessors) {top : MethodId} (htop : s.methodNamed? (Bundle.initS Bundle.tN) = some top) {own : String} {ic : Nat} (h : ∀ w ∈ nseAt own ic, w.before args s = true) :
    ∃ (P1 : PassC) (Ps : List PassC), Ps.length = 2 ∧ P1.LinksS pl s ∧ (∀ P, P ∈ Ps → P.LinksS pl s) ∧ s.methodNamed? (Bundle.initS nseC) = some P1.m ∧ P1.sup = firstOf top (Ps.map (·.toPassT)) ∧ PassesOn top (Ps.map (·.toPassT)) := by
  obtain ⟨P, L, hm, hs⟩ := PassC.ofS_atoms (args := args) (s := s) hpl (X := nseC) (Y := rteC) (by decide) (by decide) n13_0 n13_1 n13_2 n13_5 (fun c hc => h c (by simp only [nseAt, List.mem_append]; exact Or.inl (Or.inl (Or.inr hc))))
  obtain ⟨P', Ps, hlen, L', hL, hm', hsup, hpass⟩ := Bundle.chainS (args := args) hpl htop ["java/lang/Exception"] rteC (by decide) (by decide) (fun c hc => h c (by simp only [nseAt, List.mem_append]; exact Or.inl (Or.inr hc)))
  refine ⟨P, P' :: Ps, by simp [hlen], L, ?_, hm, Option.some.inj (hs.symm.trans hm'), hsup, hpass⟩
  intro Q hQ
  rcases List.mem_cons.mp hQ with rfl | hQ
  · exact L'
  · exact hL Q hQ
section NSE
variable {p : Program} {l : Launch} {e : Env} {R : Room} {s : State} {m₀ : MethodId} {args : Array Value} {below : List Frame} {meth : Method} {c : Code} {W9 : State} {locs : List Loc} {cells slots : Nat}
set_option maxHeartbeats 2000000 in
theorem nse_ctor (X : Stand p l e R s m₀ args below meth c W9 locs cells slots) (hexec : p.tables.exec = Jvm.exec) (htr : e.platform.stackTraces = false) {own : String} {ic : Nat} (hown : s.vm.findClass own = some m₀.cls)
    (h : ∀ a ∈ nseAt own ic, a.before args s = true) (hlocs : ∀ x ∈ locs, ∀ cell, s.heap[x.base]? = some cell → cell.vm.isStatics = false)
    {a : Addr} {cX : ClassId} {kX : Class} (hfoundX : s.vm.findClass nseC = some cX) (hkX : s.vm.classes[cX]? = some kX) (hcell : W9.heap[a]? = some (freshCell cX kX)) (hnew : s.heap.size ≤ a) {msg : Value} (hmsg : msg.isRef = true)
    {g : JFrame} (hg : g.method = m₀) (hsize : g.locals.size = c.maxLocals) (hlocked : g.locked = none) (hentered : g.entered = []) {rest : List Value} (hstack : g.stack = msg :: .ref a :: .ref a :: rest)
    (hd6 : decode c.code g.pc = .ok (.invokespecial ic, 3)) (hd9 : decode c.code (g.pc + 3) = .ok (.athrow, 1)) (hout : ∀ x ∈ c.exceptionTable.toList, covers x (g.pc + 3) = false)
    (hRframes : 2 + 3 < R.frames) (hRlocals : 2 * g.monitorRoom + ((Value.ref a :: rest).map fun v => v.category).sum + (13 * (2 + 1) + 42) ≤ R.locals) (hlocks : meth.locks = false) :
    ∃ U : State, Steps p.tables e below (W9.setTop g) U ∧ U.status = .running ∧ Ended U below (.threw a) ∧ s.WarmedH U.vm ∧ s.sameButNew ({ U with vm := s.vm } : State) locs cells slots ∧ ∃ ce, U.heap[a]? = some ce ∧ s.vm.findClass nseC = some ce.cls ∧ ce.vm = .none := by
  have howns : e.platform.frameOwnsMonitors = true := by rw [X.admits.platform]
  have hfin : e.platform.finalization = false := by rw [X.admits.platform]
  have hpl : e.platform.magicAccessors = ({} : Platform).magicAccessors := by rw [X.admits.platform]
  have a' : ∀ x, x ∈ nseAt own ic → x.holds args s none s [] = true := fun x hx => h x hx
  obtain ⟨T, Z0, L, -, Y⟩ := ThrowableC.of_atoms (args := args) howns hfin hpl (fun x hx => h x (by simp [nseAt, hx]))
  obtain ⟨Z, M, LZ, LM, hnZ⟩ := Init0T.ofS_atoms (args := args) hpl L Y (fun x hx => h x (by simp [nseAt, hx]))
  obtain ⟨P1, Ps, hlen, L1, hL, hP1m, hlink1, hlink⟩ := nse_chain (args := args) hpl hnZ h
  have hfound : s.vm.findClass nseC = some P1.m.cls := findClass_of_methodNamed hP1m
  cases Option.some.inj (hfoundX.symm.trans hfound)
  obtain ⟨c1, kX', hc1, hk, hord, -, -, hn6⟩ := Cond.instantiable_spec (a' (.instantiable nseC 6) (by simp [nseAt]))
  cases Option.some.inj (hc1.symm.trans hfound)
  cases Option.some.inj (hkX.symm.trans hk)
  have hsel0 : selectMethod e.platform s.vm P1.m.cls T.fill0 = .method T.fill0 := by
    obtain ⟨c2, r2, m2, q1, q2, q3, q4, -⟩ := Cond.selects_spec (a' (.selects nseC Bundle.tFill0 Bundle.tFill0) (by simp [nseAt]))
    cases Option.some.inj (q1.symm.trans hfound)
    cases Option.some.inj (q2.symm.trans (State.methodFound?_of_named Y.fill0 (by decide)))
    cases Option.some.inj (q3.symm.trans Y.fill0)
    rw [Launch.admits_selectMethod X.admits]; exact q4
  have hselF : selectMethod e.platform s.vm P1.m.cls T.fill = .method T.fill := by
    obtain ⟨c2, r2, m2, q1, q2, q3, q4, -⟩ := Cond.selects_spec (a' (.selects nseC Bundle.tFill Bundle.tFill) (by simp [nseAt]))
    cases Option.some.inj (q1.symm.trans hfound)
    cases Option.some.inj (q2.symm.trans (State.methodFound?_of_named Y.fill (by decide)))
    cases Option.some.inj (q3.symm.trans Y.fill)
    rw [Launch.admits_selectMethod X.admits]; exact q4
  obtain ⟨cellS0, hcS0, hiss⟩ := Y.statics
  obtain ⟨u0, hu0⟩ := Cond.staticRefV Y.unassigned L.unassignedStatic L.statics hcS0 hiss (a' (.isRef (.static Bundle.tN "UNASSIGNED_STACK" Bundle.steD)) (by simp [nseAt]))
  obtain ⟨sen, hsen⟩ := Cond.staticRefV Y.sentinel L.sentinelStatic L.statics hcS0 hiss (a' (.isRef (.static Bundle.tN "SUPPRESSED_SENTINEL" Bundle.listD)) (by simp [nseAt]))
  obtain ⟨ci198, i198, fB, hk198, hg198, ha198, hsB, -, hnB, htB, hffB⟩ := Cond.ownField (t := .object "java/lang/Object") Y.found L.cls (by decide +kernel) (a' (.fieldLink Bundle.tN 198 Bundle.tN "backtrace" "Ljava/lang/Object;") (by simp [nseAt])) (a' (.lays Bundle.tN Bundle.tN "backtrace" "Ljava/lang/Object;") (by simp [nseAt])) e.platform hpl
  obtain ⟨cellS, hcS', heS, -, hkeep⟩ := X.same.2.2.2.2.2 T.aS cellS0 hcS0
  have hcellS : W9.heap[T.aS]? = some cellS := hcS'
  have hout' : ∀ i, (⟨T.aS, i⟩ : Loc) ∉ locs := fun i hmem => by
    have := hlocs _ hmem cellS0 hcS0
    rw [hiss] at this; cases this
  have hknownS : cellS.vm ≠ .unknown := by
    rw [heS]; intro hu
    rw [show cellS0.vm = .unknown from hu] at hiss
    cases hiss
  have hneS : T.aS ≠ a := Nat.ne_of_lt (Nat.lt_of_lt_of_le (Array.getElem?_eq_some_iff.mp hcS0).1 hnew)
  obtain ⟨iM, hffM⟩ := Y.msg
  obtain ⟨tyC, dC, hdC, hdnC⟩ := Cond.laysAt hfound hk Y.cause (a' (.lays nseC Bundle.tN "cause" "Ljava/lang/Throwable;") (by simp [nseAt]))
  obtain ⟨tyS, dS, hdS, hdnS⟩ := Cond.laysAt hfound hk Y.stack (a' (.lays nseC Bundle.tN "stackTrace" Bundle.steD) (by simp [nseAt]))
  obtain ⟨tyP, dP, hdP, hdnP⟩ := Cond.laysAt hfound hk Y.supp (a' (.lays nseC Bundle.tN "suppressedExceptions" Bundle.listD) (by simp [nseAt]))
  obtain ⟨tyM, dM, hdM, hdnM⟩ := Cond.laysAt hfound hk hffM (a' (.lays nseC Bundle.tN "detailMessage" "Ljava/lang/String;") (by simp [nseAt]))
  obtain ⟨tyB, dB, hdB, hdnB⟩ := Cond.laysAt hfound hk hffB (a' (.lays nseC Bundle.tN "backtrace" "Ljava/lang/Object;") (by simp [nseAt]))
  have bC := Cond.laysApart hdB hdC hdnB hdnC (by rw [hnB, Y.causeName]; decide)
  have bS := Cond.laysApart hdB hdS hdnB hdnS (by rw [hnB, Y.stackName]; decide)
  have bP := Cond.laysApart hdB hdP hdnB hdnP (by rw [hnB, Y.suppName]; decide)
  have hskip : SkipFacts T e.platform s (fun u => u) u0 ((preparedCellV T.toThrowableT (freshCell P1.m.cls kX) a u0 sen).withEntry W9.cur) :=
    ⟨{ ci198 := ci198, i198 := i198, fBack := fB }, ⟨hk198, hg198, ha198, hsB⟩, by
      have := fresh_default (c := P1.m.cls) tyB
      rw [htB] at this
      simpa [preparedCellV, Cell.setSlot, Cell.withEntry, Array.getElem?_setIfInBounds, bC, bS, bP, bC.symm, bS.symm, bP.symm, defaultValue] using this, fun _ _ => rfl⟩
  obtain ⟨tm, methC, cdC, kC, vm₁, hnC, -, -, -, -, -, -, -, hW₁, st1⟩ := Steps.initColdS (tb := p.tables) (e := e) (below := below) (s := s) (U := W9) X.here hexec X.warmed hpl hown (t := Bundle.initS nseC) rfl rfl (by decide)
    (a' (.methodLink own ic (Bundle.initS nseC)) (by simp [nseAt])) (h (.instanceMethod (Bundle.initS nseC)) (by simp [nseAt, Bundle.passSAtoms])) (bytes := nse13) (maxL := 2) (h (.code (Bundle.initS nseC) nse13 2 none) (by simp [nseAt, Bundle.passSAtoms]))
    (f := g) hg (a := a) (msg := msg) (rest := .ref a :: rest) hstack hd6
  cases Option.some.inj (hnC.symm.trans hP1m)
  have X₁ := X.noted hW₁
  obtain ⟨vm₂, X₂, st2⟩ := X₁.ctorMessageOffV hexec (g := { g with stack := .ref a :: rest }) hg hsize T L Z LZ M LM (P1 :: Ps)
    (fun P hP => by rcases List.mem_cons.mp hP with rfl | hP; exact L1; exact hL P hP) ⟨hlink1, hlink⟩ (u0 := u0) (sen := sen) (self := a) hmsg (cell := freshCell P1.m.cls kX) (cellS := cellS)
    hcell (fun _ => by simp) (by simp) rfl rfl hsel0 hselF hcellS hneS hknownS (by rw [hkeep _ (hout' _)]; exact hu0) (by rw [hkeep _ (hout' _)]; exact hsen)
    (Takes.of_laid hk hord tyC (by rw [Y.causeType]; rfl)) (Takes.of_laid hk hord tyS (by rw [Y.stackType]; exact fits_refV_array _ u0)) (Takes.of_laid hk hord tyP (by rw [Y.suppType]; exact fits_refV_object _ sen))
    (Takes.of_laid hk hord tyM (by rw [Y.msgType]; exact fits_refV_object _ ⟨msg, hmsg⟩)) Y.objLocals hskip htr [] hd6
    (by simp only [List.length_cons, hlen]; omega) (by simp only [List.length_cons, hlen]; exact hRlocals)
  obtain ⟨hwalk, hrun, hended, hWU, hsame⟩ := X₂.athrowLeaves hexec (g := { g with stack := .ref a :: rest, pc := g.pc + 3 }) hg hlocked hentered hout (a := a) (rest := rest) rfl hd9
  have hlt : a < ((W9.setVm vm₁).setVm vm₂).heap.size := (Array.getElem?_eq_some_iff.mp hcell).1
  have hU := heapAt_setCell_self (s := (W9.setVm vm₁).setVm vm₂) (plainBareV T.toThrowableT (freshCell P1.m.cls kX) a u0 sen msg) hlt
  refine ⟨_, st1 _ (fun acts => ?_), hrun, hended, hWU, hsame.weaken (fun y hy hlt' => ?_) (Nat.le_refl _) (Nat.le_refl _), _, hU, hfound, rfl⟩
  · rw [doInvoke_state]
    exact st2 _ hwalk
  · rcases List.mem_append.mp hy with h1 | h1
    · exact h1
    · exfalso
      have hb : y.base = a := by
        simp only [List.mem_cons, List.not_mem_nil, or_false] at h1
        rcases h1 with rfl | rfl | rfl | rfl | rfl <;> rfl
      rw [hb] at hlt'
      exact Nat.not_lt.mpr hnew hlt'
end NSE
/-- what a throw site of NoSuchElementException asks of the tables -/
def ATN (own : String) (ik ic : Nat) : Prop := Cond.classLink own ik nseC ∈ WB ∧ Cond.initialized nseC ∈ WB ∧ ((nseAt own ic).filter vx_no).all (fun w => if goodWord w = true then decide (w ∈ WB) else decide (w ∈ NW)) = true ∧ (Cond.classLink own ik nseC :: Cond.initialized nseC :: (nseAt own ic).filter vx_no).all vx_ot = true
section TN
variable {l : Launch} {X : MX} {cs : Nat × Nat} {post : Option PV → Mm → Prop} {xp : String → Mm → Prop} {mc ms : Nat} {pc : Nat} {L : List (Nat × PV)} {st : List PV} {M : Mm}
set_option maxHeartbeats 1000000 in
theorem go_throwN {ik is ic p1 p2 p3 p4 p5 : Nat} {text : String} (k : Nat) (k0 : (xt X)[k]? = some (pc, .new ik, p1)) (k1 : (xt X)[k + 1]? = some (p1, .dup, p2)) (k2 : (xt X)[k + 2]? = some (p2, .ldc is, p3)) (k3 : (xt X)[k + 3]? = some (p3, .invokespecial ic, p4)) (k4 : (xt X)[k + 4]? = some (p4, .athrow, p5))
    (ha : ATN (xy X).cls ik ic) (hs : ((xy X).cls, is, text) ∈ STR) (hRf : 5 < (xm X).frames) (hRl : (st.map pcat).sum + 82 ≤ (xm X).locals) (hc : cs.1 + 1 ≤ mc ∧ cs.2 + 6 ≤ ms) (hR : mc ≤ (xm X).cells ∧ ms ≤ (xm X).slots) (hx : xp "java/util/NoSuchElementException" M) : Gx l X (xTk post xp mc ms noTab) cs pc L st M := by
  intro D ad z p e s m args below meth c H locs ls A C hl hW
  obtain ⟨d0, e0⟩ := C.1.at k0
  subst e0
  obtain ⟨d1, e1⟩ := C.1.at k1
  subst e1
  obtain ⟨d2, e2⟩ := C.1.at k2
  subst e2
  obtain ⟨d3, e3⟩ := C.1.at k3
  subst e3
  obtain ⟨d4, -⟩ := C.1.at k4
  obtain ⟨x1, x2, x3, x4, -⟩ := C.2.2.2.2.2.2.2.1
  obtain ⟨sa, hsa⟩ := x4 _ hs
  have htab : ∀ x ∈ c.exceptionTable.toList, False := C.2.2.2.2.2.2.2.2.2
  have hts := C.2.1.2.2.2.2
  have hb := C.2.1.2.1
  have hexec := C.2.1.1
  have hat : ∀ w ∈ (nseAt (xy X).cls ic).filter vx_no, w.before args s = true := by
    intro w hw
    have h9 := List.all_eq_true.mp ha.2.2.1 w hw
    by_cases hg : goodWord w = true
    · rw [if_pos hg] at h9
      exact hts w (of_decide_eq_true h9)
    · rw [if_neg hg] at h9
      have hn := of_decide_eq_true h9
      have hq := NW_nest w hn
      have hz := C.2.2.2.2.1 w hn
      exact va_Nw.use (by cases w <;> first | rfl | (exact absurd hq (by simp [nestW]))) hz
  have hgood : ∀ w ∈ Cond.classLink (xy X).cls ik nseC :: Cond.initialized nseC :: (nseAt (xy X).cls ic).filter vx_no, vx_ot w = true := fun w hw => List.all_eq_true.mp ha.2.2.2 w hw
  intro T hT S
  have htr : e.platform.stackTraces = false := (show e.platform.stackTraces = l.stackTraces by rw [S.admits.platform]).trans x1
  have Y := vx_rebase S (R' := { frames := (xm X).frames, locals := (xm X).locals, cells := 1, slots := 6 }) (Nat.le_refl _) (Nat.le_refl _) (by show cs.1 + 1 ≤ _; omega) (by show cs.2 + 6 ≤ _; omega)
  obtain ⟨s', hA⟩ : ∃ z, z = (T.setVm s.vm).setFrames (.invoking m args :: below) := ⟨_, rfl⟩
  rw [← hA] at Y
  have hvm : s'.vm = s.vm := by rw [hA]; rfl
  have hhp : s'.heap = H := by rw [hA]; exact hT
  have hW0 : s.WarmedH s'.vm := by rw [hvm]; exact State.WarmedH.refl s
  have hat' : ∀ w ∈ (nseAt (xy X).cls ic).filter vx_no, w.before args s' = true := fun w hw => vx_ot_at hW0 hvm.symm (hgood w (List.mem_cons_of_mem _ (List.mem_cons_of_mem _ hw))) (hat w hw)
  have hk' : (Cond.classLink (xy X).cls ik nseC).before args s' = true := vx_ot_at hW0 hvm.symm (hgood _ List.mem_cons_self) (hts _ ha.1)
  have hini' : (Cond.initialized nseC).before args s' = true := vx_ot_at hW0 hvm.symm (hgood _ (List.mem_cons_of_mem _ List.mem_cons_self)) (hts _ ha.2.1)
  have hU' : vx_Zq Bundle.tN "UNASSIGNED_STACK" Bundle.steD A s' s'.heap := by rw [hhp]; exact vx_Zq.moved hW0.alike (x2.kept hW.2.2.2.1)
  have hN' : vx_Zq Bundle.tN "SUPPRESSED_SENTINEL" Bundle.listD A s' s'.heap := by rw [hhp]; exact vx_Zq.moved hW0.alike (x3.kept hW.2.2.2.1)
  have h : ∀ w ∈ nseAt (xy X).cls ic, w.before args s' = true := vx_own hat' (vx_isRefq hU'.1) (vx_isRefq hN'.1) hU'.2.word hN'.2.word
  have hown' : s'.vm.findClass (xy X).cls = some m.cls := by rw [hvm]; exact C.2.1.2.2.2.1
  have hins : (Cond.instantiable nseC 6).before args s' = true := h _ (by simp [nseAt])
  obtain ⟨vm₁, cX, kX, hfX, hkX, -, -, X₁, st1⟩ := Y.newCold hexec (own := (xy X).cls) (C := nseC) (index := ik) (n := 6) hown' hk' hins hini'
    (g := F0 m pc ls (smap ad st)) rfl (by rw [hb]; exact d0) (Nat.le_refl _) (Nat.le_refl _)
  generalize hT1 : (T.setVm vm₁).pushCell { cls := cX, slots := kX.instanceTypes.map defaultValue, vm := .none } = T1 at X₁ st1
  have hcat : (Value.ref T.heap.size).category = 1 := rfl
  have hcellA : T1.heap[T.heap.size]? = some (freshCell cX kX) := by rw [← hT1]; exact State.heap_pushCell_size _ _
  have d3' : decode c.code (pc + 3) = .ok (.dup, 1) := by rw [hb]; exact d1
  have d4' : decode c.code (pc + 4) = .ok (.ldc is, 2) := by rw [hb]; exact d2
  have hstr' : vk_R (xy X).cls is text sa s' := vk_R.warm hW0 hsa
  have hsum := pcat_sum (ad := ad) (st := st) (w := (st.map pcat).sum) (Nat.le_refl _)
  obtain ⟨U, hsteps, hrun, hend, hWm, hsame, ce, hce, hO, hO2⟩ := nse_ctor X₁ hexec htr (own := (xy X).cls) (ic := ic) hown' h (fun x hx => nomatch hx) hfX hkX hcellA (by rw [hhp, hT]; exact Nat.le_refl _) (msg := .ref sa) rfl
    (g := { method := m, pc := pc + 6, locals := ls, stack := .ref sa :: .ref T.heap.size :: .ref T.heap.size :: smap ad st, locked := none }) rfl (hl.1.trans C.2.1.2.2.1.symm) rfl rfl (rest := smap ad st) rfl
    (by rw [hb]; exact d3) (by rw [hb]; exact d4) (fun x hx => (htab x hx).elim) hRf (by simp only [List.map_cons, List.sum_cons, hcat]; show 0 + (1 + _) + _ ≤ (xm X).locals; omega) C.2.2.2.1
  obtain ⟨f1, f2⟩ := vx_frame hsame
  rw [hhp] at f1 f2
  have hWs : s.WarmedH U.vm := State.WarmedH.trans hW0 hWm
  have hcl : s.vm.findClass nseC = some ce.cls := by
    have h9 := hO
    rw [hvm] at h9
    exact h9
  have hall : s.sameButNew ({ U with vm := s.vm } : State) locs mc ms := by
    subst hA
    obtain ⟨e1, e2⟩ := hsame
    rw [State.setFrames_setFrames] at e1
    have h2 : (T.setVm s.vm).sameButNew ({ U with vm := s.vm } : State) [] (0 + 1) (0 + 6) := ⟨e1, e2⟩
    have h3 := S.same.trans h2
    rw [List.append_nil] at h3
    exact h3.mono hc.1 hc.2
  refine ⟨U, ?_, .threw T.heap.size, hrun, hend, Or.inr ⟨T.heap.size, rfl, nseC, ce, locs, gx_end C hW hx hWs.alike f1 (fun q hq => f2 q hq (fun z hz => nomatch hz)), hce, hO2, hcl, hWs, hall, hW.2.2.2.2⟩⟩
  refine st1 _ ?_
  show Steps p.tables e below (T1.setTop { method := m, pc := pc + 3, locals := ls, stack := .ref T.heap.size :: smap ad st, locked := none }) _
  jvm_step X₁.here [X₁.here.top, hexec, d3', Value.category]
  exact X₁.ldcString hexec (own := (xy X).cls) (text := text) (index := is) (a := sa) hown' hstr'.1 hstr'.2
    (g := { method := m, pc := pc + 4, locals := ls, stack := .ref T.heap.size :: .ref T.heap.size :: smap ad st, locked := none }) rfl d4' _ hsteps
end TN
