/-- what a throw site of NoSuchElementException asks of the tables: its constructor's own link is not the usual one -/
def ATN (own : String) (ik ic : Nat) : Prop := Cond.classLink own ik "java/util/NoSuchElementException" ∈ WB ∧ Cond.methodLink own ic ⟨"java/util/NoSuchElementException", "<init>", "(Ljava/lang/String;)V"⟩ ∈ WB
section TN
variable {l : Launch} {X : MX} {cs : Nat × Nat} {post : Option PV → Mm → Prop} {xp : String → Mm → Prop} {mc ms : Nat} {pc : Nat} {L : List (Nat × PV)} {st : List PV} {M : Mm}
theorem go_throwN {ik is ic p1 p2 p3 p4 p5 : Nat} {text : String} (k : Nat) (k0 : (xt X)[k]? = some (pc, .new ik, p1)) (k1 : (xt X)[k + 1]? = some (p1, .dup, p2)) (k2 : (xt X)[k + 2]? = some (p2, .ldc is, p3)) (k3 : (xt X)[k + 3]? = some (p3, .invokespecial ic, p4)) (k4 : (xt X)[k + 4]? = some (p4, .athrow, p5))
    (ha : ATN (xy X).cls ik ic) (hs : ((xy X).cls, is, text) ∈ STR) (hRf : 5 < (xm X).frames) (hRl : (st.map pcat).sum + 82 ≤ (xm X).locals) (hc : cs.1 + 1 ≤ mc ∧ cs.2 + 6 ≤ ms) (hR : mc ≤ (xm X).cells ∧ ms ≤ (xm X).slots) (hx : xp "java/util/NoSuchElementException" M) : Gx l X (xTk post xp mc ms noTab) cs pc L st M := by
  sorry
end TN
