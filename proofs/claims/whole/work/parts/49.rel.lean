/-! relations: one or more steps; Warshall's step; cores -/
abbrev Rl : Type := Nat → Nat → Bool
def pw (R : Rl) : Nat → Nat → Nat → Prop
  | 0, p, q => R p q = true
  | k + 1, p, q => ∃ m, R p m = true ∧ pw R k m q
def pl (R : Rl) (p q : Nat) : Prop := ∃ k, pw R k p q
section REL
variable {R C : Rl}
theorem pw_snoc : ∀ (k : Nat) {p m q : Nat}, pw R k p m → R m q = true → pw R (k + 1) p q
  | 0, p, m, q, h1, h2 => ⟨m, h1, h2⟩
  | k + 1, p, m, q, ⟨x, hx, h1⟩, h2 => ⟨x, hx, pw_snoc k h1 h2⟩
theorem pw_app : ∀ (i : Nat) {j p m q : Nat}, pw R i p m → pw R j m q → pw R (i + j + 1) p q
  | 0, j, p, m, q, h1, h2 => by rw [Nat.zero_add]; exact ⟨m, h1, h2⟩
  | i + 1, j, p, m, q, ⟨x, hx, h1⟩, h2 => by
    have e : i + 1 + j + 1 = (i + j + 1) + 1 := by omega
    rw [e]
    exact ⟨x, hx, pw_app i h1 h2⟩
theorem pl_1 {p q : Nat} (h : R p q = true) : pl R p q := ⟨0, h⟩
theorem pl_t {p m q : Nat} (h1 : pl R p m) (h2 : pl R m q) : pl R p q := by
  obtain ⟨i, h1⟩ := h1
  obtain ⟨j, h2⟩ := h2
  exact ⟨i + j + 1, pw_app i h1 h2⟩
/-- a transitive relation between R and its closure is the closure -/
theorem pl_iff (h1 : ∀ p q, R p q = true → C p q = true) (h2 : ∀ p q, C p q = true → pl R p q) (h3 : ∀ p m q, C p m = true → C m q = true → C p q = true) (p q : Nat) : C p q = true ↔ pl R p q := by
  have key : ∀ (k p : Nat), pw R k p q → C p q = true := by
    intro k
    induction k with
    | zero => intro p h; exact h1 p q h
    | succ k ih =>
      intro p h
      obtain ⟨m, a, b⟩ := h
      exact h3 p m q (h1 p m a) (ih m b)
  exact ⟨h2 p q, fun h => h.elim fun k h => key k p h⟩
def wst (C : Rl) (k : Nat) : Rl := fun p q => C p q || (C p k && C k q)
theorem wst_tr {k : Nat} (h : ∀ m, m < k → ∀ p q, C p m = true → C m q = true → C p q = true) : ∀ m, m < k + 1 → ∀ p q, wst C k p m = true → wst C k m q = true → wst C k p q = true := by
  intro m hm p q h1 h2
  simp only [wst, Bool.or_eq_true, Bool.and_eq_true] at h1 h2 ⊢
  by_cases hk : m = k
  · subst hk
    have a : C p m = true := by rcases h1 with h1 | h1; exact h1; exact h1.1
    have b : C m q = true := by rcases h2 with h2 | h2; exact h2; exact h2.2
    exact Or.inr ⟨a, b⟩
  · have hlt : m < k := by omega
    rcases h1 with h1 | ⟨h1, h1b⟩ <;> rcases h2 with h2 | ⟨h2, h2b⟩
    · exact Or.inl (h m hlt p q h1 h2)
    · exact Or.inr ⟨h m hlt p k h1 h2, h2b⟩
    · exact Or.inr ⟨h1, h m hlt k q h1b h2⟩
    · exact Or.inr ⟨h1, h2b⟩
theorem wst_le {k p q : Nat} (h : C p q = true) : wst C k p q = true := by simp [wst, h]
theorem wst_pl {k : Nat} (h : ∀ p q, C p q = true → pl R p q) : ∀ p q, wst C k p q = true → pl R p q := by
  intro p q h1
  simp only [wst, Bool.or_eq_true, Bool.and_eq_true] at h1
  rcases h1 with h1 | ⟨h1, h2⟩
  · exact h p q h1
  · exact pl_t (h p k h1) (h k q h2)
/-- four steps of Warshall, over a relation on four points -/
theorem wst4 (h4 : ∀ p q, R p q = true → p < 4 ∧ q < 4) (p q : Nat) : wst (wst (wst (wst R 0) 1) 2) 3 p q = true ↔ pl R p q := by
  have b : ∀ (C : Rl) (k : Nat), (∀ p q, C p q = true → p < 4 ∧ q < 4) → ∀ p q, wst C k p q = true → p < 4 ∧ q < 4 := by
    intro C k h p q h1
    simp only [wst, Bool.or_eq_true, Bool.and_eq_true] at h1
    rcases h1 with h1 | ⟨h1, h2⟩
    · exact h p q h1
    · exact ⟨(h p k h1).1, (h k q h2).2⟩
  have b4 := b _ 3 (b _ 2 (b _ 1 (b _ 0 h4)))
  have t4 := wst_tr (k := 3) (wst_tr (k := 2) (wst_tr (k := 1) (wst_tr (C := R) (k := 0) (fun m h => absurd h (by omega)))))
  refine pl_iff (fun p q h => wst_le (wst_le (wst_le (wst_le h)))) (wst_pl (wst_pl (wst_pl (wst_pl (fun p q h => pl_1 h))))) (fun p m q h1 h2 => t4 m (b4 m q h2).1 p q h1 h2) p q
end REL
