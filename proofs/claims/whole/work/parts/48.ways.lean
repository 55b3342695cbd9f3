/-! words, ways, lassos: the mathematics that both sides are held against -/
abbrev Ed : Type := Nat → Nat → Nat → Bool
def pth (ed : Ed) : List Nat → Nat → Nat → Prop
  | [], p, q => p = q
  | l :: w, p, q => ∃ m, ed l p m = true ∧ pth ed w m q
def gth (ed : Ed) (gd : Nat → Bool) : List Nat → Nat → Nat → Prop
  | [], _, _ => False
  | l :: w, p, q => ∃ m, ed l p m = true ∧ ((gd m = true ∧ pth ed w m q) ∨ gth ed gd w m q)
def rep (v : List Nat) : Nat → List Nat
  | 0 => []
  | k + 1 => v ++ rep v k
/-- the word u v v v .. is taken -/
def Tk (ed : Ed) (gd : Nat → Bool) (u v : List Nat) : Prop := ∃ q c k j, pth ed u 0 q ∧ pth ed (rep v k) q c ∧ gth ed gd (rep v j) c c
section WAYS
variable {ed : Ed} {gd : Nat → Bool}
theorem pth_app : ∀ (u v : List Nat) (p q : Nat), pth ed (u ++ v) p q ↔ ∃ m, pth ed u p m ∧ pth ed v m q
  | [], v, p, q => ⟨fun h => ⟨p, rfl, h⟩, fun ⟨m, h1, h2⟩ => by cases h1; exact h2⟩
  | l :: u, v, p, q => by
    constructor
    · rintro ⟨m, h1, h2⟩
      obtain ⟨x, h3, h4⟩ := (pth_app u v m q).mp h2
      exact ⟨x, ⟨m, h1, h3⟩, h4⟩
    · rintro ⟨x, ⟨m, h1, h3⟩, h4⟩
      exact ⟨m, h1, (pth_app u v m q).mpr ⟨x, h3, h4⟩⟩
theorem gth_pth : ∀ (w : List Nat) (p q : Nat), gth ed gd w p q → pth ed w p q
  | [], _, _, h => h.elim
  | l :: w, p, q, ⟨m, h1, h2⟩ => by
    rcases h2 with ⟨-, h2⟩ | h2
    · exact ⟨m, h1, h2⟩
    · exact ⟨m, h1, gth_pth w m q h2⟩
theorem gth_app : ∀ (u v : List Nat) (p q : Nat), gth ed gd (u ++ v) p q ↔ ∃ m, (gth ed gd u p m ∧ pth ed v m q) ∨ (pth ed u p m ∧ gth ed gd v m q)
  | [], v, p, q => by
    constructor
    · intro h
      exact ⟨p, Or.inr ⟨rfl, h⟩⟩
    · rintro ⟨m, ⟨h1, -⟩ | ⟨h1, h2⟩⟩
      · exact h1.elim
      · cases h1
        exact h2
  | l :: u, v, p, q => by
    constructor
    · rintro ⟨m, h1, ⟨h2, h3⟩ | h2⟩
      · obtain ⟨x, h4, h5⟩ := (pth_app u v m q).mp h3
        exact ⟨x, Or.inl ⟨⟨m, h1, Or.inl ⟨h2, h4⟩⟩, h5⟩⟩
      · obtain ⟨x, ⟨h4, h5⟩ | ⟨h4, h5⟩⟩ := (gth_app u v m q).mp h2
        · exact ⟨x, Or.inl ⟨⟨m, h1, Or.inr h4⟩, h5⟩⟩
        · exact ⟨x, Or.inr ⟨⟨m, h1, h4⟩, h5⟩⟩
    · rintro ⟨x, ⟨⟨m, h1, ⟨h2, h4⟩ | h4⟩, h5⟩ | ⟨⟨m, h1, h4⟩, h5⟩⟩
      · exact ⟨m, h1, Or.inl ⟨h2, (pth_app u v m q).mpr ⟨x, h4, h5⟩⟩⟩
      · exact ⟨m, h1, Or.inr ((gth_app u v m q).mpr ⟨x, Or.inl ⟨h4, h5⟩⟩)⟩
      · exact ⟨m, h1, Or.inr ((gth_app u v m q).mpr ⟨x, Or.inr ⟨h4, h5⟩⟩)⟩
theorem gth_l {u v : List Nat} {p m q : Nat} (h1 : gth ed gd u p m) (h2 : pth ed v m q) : gth ed gd (u ++ v) p q := (gth_app u v p q).mpr ⟨m, Or.inl ⟨h1, h2⟩⟩
theorem gth_r {u v : List Nat} {p m q : Nat} (h1 : pth ed u p m) (h2 : gth ed gd v m q) : gth ed gd (u ++ v) p q := (gth_app u v p q).mpr ⟨m, Or.inr ⟨h1, h2⟩⟩
theorem pth_j {u v : List Nat} {p m q : Nat} (h1 : pth ed u p m) (h2 : pth ed v m q) : pth ed (u ++ v) p q := (pth_app u v p q).mpr ⟨m, h1, h2⟩
/-- a way that ends in a good state is good, if it has a letter -/
theorem pth_good : ∀ (w : List Nat) (p q : Nat), w ≠ [] → gd q = true → pth ed w p q → gth ed gd w p q
  | [], _, _, h, _, _ => (h rfl).elim
  | [l], p, q, _, hg, ⟨m, h1, h2⟩ => by
    cases h2
    exact ⟨q, h1, Or.inl ⟨hg, rfl⟩⟩
  | l :: k :: w, p, q, _, hg, ⟨m, h1, h2⟩ => ⟨m, h1, Or.inr (pth_good (k :: w) m q (by simp) hg h2)⟩
/-- a good way goes by a good state, behind at least one letter -/
theorem gth_cut : ∀ (w : List Nat) (p q : Nat), gth ed gd w p q → ∃ (w1 w2 : List Nat) (g : Nat), w = w1 ++ w2 ∧ w1 ≠ [] ∧ gd g = true ∧ pth ed w1 p g ∧ pth ed w2 g q
  | [], _, _, h => h.elim
  | l :: w, p, q, ⟨m, h1, h2⟩ => by
    rcases h2 with ⟨hg, h2⟩ | h2
    · exact ⟨[l], w, m, rfl, by simp, hg, ⟨m, h1, rfl⟩, h2⟩
    · obtain ⟨w1, w2, g, e, -, hg, a, b⟩ := gth_cut w m q h2
      exact ⟨l :: w1, w2, g, by rw [e]; rfl, by simp, hg, ⟨m, h1, a⟩, b⟩
theorem rep_add (v : List Nat) : ∀ (i j : Nat), rep v (i + j) = rep v i ++ rep v j
  | 0, j => by rw [Nat.zero_add]; rfl
  | i + 1, j => by
    rw [Nat.succ_add]
    show v ++ rep v (i + j) = v ++ rep v i ++ rep v j
    rw [rep_add v i j, List.append_assoc]
theorem rep_rot (a b : List Nat) : ∀ (k : Nat), a ++ rep (b ++ a) k = rep (a ++ b) k ++ a
  | 0 => by simp [rep]
  | k + 1 => by
    show a ++ (b ++ a ++ rep (b ++ a) k) = a ++ b ++ rep (a ++ b) k ++ a
    rw [List.append_assoc b, rep_rot a b k]
    simp [List.append_assoc]
theorem rep_succ_rot (a b : List Nat) (k : Nat) : a ++ rep (b ++ a) k ++ b = rep (a ++ b) (k + 1) := by
  rw [rep_rot]
  show rep (a ++ b) k ++ a ++ b = a ++ b ++ rep (a ++ b) k
  have h := rep_add (a ++ b) k 1
  have h2 := rep_add (a ++ b) 1 k
  rw [Nat.add_comm] at h2
  rw [h] at h2
  simp only [rep, List.append_nil] at h2
  rw [List.append_assoc]
  exact h2
/-- the lasso may be turned: u a (b a) (b a) .. is u (a b) (a b) .. -/
theorem Tk_rot1 {u a b : List Nat} (h : Tk ed gd (u ++ a) (b ++ a)) : Tk ed gd u (a ++ b) := by
  obtain ⟨q, c, k, j, h1, h2, h3⟩ := h
  obtain ⟨q0, h4, h5⟩ := (pth_app u a 0 q).mp h1
  -- behind the cycle from c: one more b
  have hj : 0 < j := by
    cases j with
    | zero => exact h3.elim
    | succ j => omega
  obtain ⟨j', rfl⟩ : ∃ j', j = j' + 1 := ⟨j - 1, by omega⟩
  have hp := gth_pth _ _ _ h3
  have hp2 : pth ed (b ++ (a ++ rep (b ++ a) j')) c c := by
    have : rep (b ++ a) (j' + 1) = b ++ (a ++ rep (b ++ a) j') := by
      show b ++ a ++ rep (b ++ a) j' = _
      rw [List.append_assoc]
    rw [← this]; exact hp
  obtain ⟨c2, h6, h7⟩ := (pth_app b _ c c).mp hp2
  refine ⟨q0, c2, k + 1, (j' + 1) + (j' + 1), h4, ?_, ?_⟩
  · rw [← rep_succ_rot]
    exact pth_j (pth_j h5 h2) h6
  · -- c2 -(a (b a)^j')-> c -(b a)^(j'+1), good-> c -b-> c2
    have e : rep (a ++ b) (j' + 1 + (j' + 1)) = (a ++ rep (b ++ a) j') ++ (rep (b ++ a) (j' + 1) ++ b) := by
      have e1 : (a ++ rep (b ++ a) j') ++ (rep (b ++ a) (j' + 1) ++ b) = a ++ rep (b ++ a) (j' + (j' + 1)) ++ b := by
        rw [rep_add (b ++ a) j' (j' + 1)]
        simp only [List.append_assoc]
      rw [e1, rep_succ_rot]
      congr 1
      omega
    rw [e]
    exact gth_r h7 (gth_l h3 h6)
end WAYS
