/-! the law's own rules: its script, its switch, its end -/
def lT (Ln : Nat) (xs : Nat → Int32) : Tgt := (fun _ _ _ s args below _ t => (∃ b : Nat, args = #[Value.ref b]) → lw_Z below args s t, fun ad s A _ => va_X (ad (9, 0)) Ln xs s s.heap ∧ ad (9, 0) < s.heap.size ∧ ¬ A (ad (9, 0)) ∧ ∀ q, A q → s.heap.size ≤ q)
section LR
variable {l : Launch} {X : MX} {tg : Tgt} {cs : Nat × Nat} {pc pc' : Nat} {L : List (Nat × PV)} {st : List PV} {M : Mm} {Ln : Nat} {xs : Nat → Int32}
theorem go_widen (cs' : Nat × Nat) (h : cs.1 ≤ cs'.1 ∧ cs.2 ≤ cs'.2) (hR : cs'.1 ≤ (xm X).cells ∧ cs'.2 ≤ (xm X).slots) (g : Gx l X tg cs' pc L st M) : Gx l X tg cs pc L st M := by
  intro D ad z p e s m args below meth c H locs ls A C hl hW
  exact W.widen h.1 h.2 (g D ad z p e s m args below meth c H locs ls A (cx_room C hR) hl hW)
theorem go_sload {i : Int32} (k : Nat) (hk : (xt X)[k]? = some (pc, .iaload, pc')) (hin : vp_in i Ln) (g : Gx l X (lT Ln xs) cs pc' L (vi (xs i.toNatClampNeg) :: st) M) : Gx l X (lT Ln xs) cs pc L (vi i :: vr 9 0 :: st) M := by
  intro D ad z p e s m args below meth c H locs ls A C hl hW
  obtain ⟨d, e1⟩ := C.1.at hk
  subst e1
  obtain ⟨x1, x2, x3, -⟩ : va_X (ad (9, 0)) Ln xs s s.heap ∧ ad (9, 0) < s.heap.size ∧ ¬ A (ad (9, 0)) ∧ ∀ q, A q → s.heap.size ≤ q := C.2.2.2.2.2.2.2.2.2
  exact va_sld (rest := smap ad st) C.2.1.1 C.2.1.2.1 x1 x2 x3 hW.2.2 hin d (g D ad z p e s m args below meth c H locs ls A C hl hW)
theorem go_slen (k : Nat) (hk : (xt X)[k]? = some (pc, .arraylength, pc')) (g : Gx l X (lT Ln xs) cs pc' L (vi (Int32.ofNat Ln) :: st) M) : Gx l X (lT Ln xs) cs pc L (vr 9 0 :: st) M := by
  intro D ad z p e s m args below meth c H locs ls A C hl hW
  obtain ⟨d, e1⟩ := C.1.at hk
  subst e1
  obtain ⟨x1, x2, x3, -⟩ : va_X (ad (9, 0)) Ln xs s s.heap ∧ ad (9, 0) < s.heap.size ∧ ¬ A (ad (9, 0)) ∧ ∀ q, A q → s.heap.size ≤ q := C.2.2.2.2.2.2.2.2.2
  exact va_slen (rest := smap ad st) C.2.1.1 C.2.1.2.1 x1 x2 x3 hW.2.2 d (g D ad z p e s m args below meth c H locs ls A C hl hW)
theorem go_swIn {x : Int32} {dflt hi off : Int} {offs : Array Int} {len : Nat} (j tgt : Nat) (hd : decode (xc X) pc = .ok (.tableswitch dflt 0 hi offs, len)) (hx : x.toInt = (j : Int)) (hj : (j : Int) ≤ hi) (ho : offs[j]? = some off) (ht : (pc : Int) + off = (tgt : Int)) (g : Gx l X tg cs tgt L st M) : Gx l X tg cs pc L (vi x :: st) M := by
  intro D ad z p e s m args below meth c H locs ls A C hl hW
  exact lv_tableIn (rest := smap ad st) C.2.1.1 C.2.1.2.1 hd (by rw [hx]; omega) (by rw [hx]; omega) (off := off) (by rw [hx]; simpa using ho) ht (g D ad z p e s m args below meth c H locs ls A C hl hW)
theorem go_swOut {x : Int32} {dflt hi : Int} {offs : Array Int} {len : Nat} (tgt : Nat) (hd : decode (xc X) pc = .ok (.tableswitch dflt 0 hi offs, len)) (hx : x.toInt < 0 ∨ hi < x.toInt) (ht : (pc : Int) + dflt = (tgt : Int)) (g : Gx l X tg cs tgt L st M) : Gx l X tg cs pc L (vi x :: st) M := by
  intro D ad z p e s m args below meth c H locs ls A C hl hW
  exact lv_tableOut (rest := smap ad st) C.2.1.1 C.2.1.2.1 hd hx ht (g D ad z p e s m args below meth c H locs ls A C hl hW)
theorem go_lawret (k : Nat) (hk : (xt X)[k]? = some (pc, .ireturn, pc')) (hcc : xc X = code) (hr : xr X = ret) (hm : xm X = room_1) (hcs : cs.1 ≤ 601024 ∧ cs.2 ≤ 7293034) : Gx l X (lT Ln xs) cs pc L [vi 1] M := by
  intro D ad z p e s m args below meth c H locs ls A C hl hW
  obtain ⟨d, -⟩ := C.1.at hk
  rw [hcc] at d
  obtain ⟨-, -, -, x4⟩ : va_X (ad (9, 0)) Ln xs s s.heap ∧ ad (9, 0) < s.heap.size ∧ ¬ A (ad (9, 0)) ∧ ∀ q, A q → s.heap.size ≤ q := C.2.2.2.2.2.2.2.2.2
  by_cases hb : ∃ b : Nat, args = #[Value.ref b]
  · obtain ⟨b, rfl⟩ := hb
    have g := lw_ret (p := p) (l := l) (e := e) (s := s) (m := m) (below := below) (meth := meth) (c := c) (b := b) C.2.1.1 (C.2.1.2.1.trans hcc) (C.2.2.1.trans hr) C.2.2.2.1 (H := H) (ls := ls) (pc := pc) d
    have g2 := va_forget (locs := locs) (fun q hq => x4 _ (hW.2.2.2.2 q hq)) (W.widen hcs.1 hcs.2 g)
    rw [hm]
    intro T hT S
    obtain ⟨t, a1, b1⟩ := g2 T hT S
    exact ⟨t, a1, fun _ => b1⟩
  · intro T hT S
    exact ⟨_, Steps.refl _, fun h9 => absurd h9 hb⟩
end LR
