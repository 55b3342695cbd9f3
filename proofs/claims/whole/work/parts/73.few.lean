/-! the digits of a word: 0 no way, 1 a way, 2 a good way -/
noncomputable def dg (e : Ed) (g : Nat → Bool) (w : List Nat) (p q : Nat) : Nat := cond (dB (gth e g w p q)) 2 (cond (dB (pth e w p q)) 1 0)
theorem dg_pos {e : Ed} {g : Nat → Bool} {w : List Nat} {p q : Nat} : 0 < dg e g w p q ↔ pth e w p q := by
  unfold dg
  cases h : dB (gth e g w p q)
  · cases h2 : dB (pth e w p q)
    · constructor
      · intro h; exact absurd h (Nat.lt_irrefl 0)
      · intro h; rw [dB_iff.mpr h] at h2; cases h2
    · exact ⟨fun _ => dB_iff.mp h2, fun _ => Nat.one_pos⟩
  · exact ⟨fun _ => gth_pth _ _ _ (dB_iff.mp h), fun _ => Nat.two_pos⟩
theorem dg_two {e : Ed} {g : Nat → Bool} {w : List Nat} {p q : Nat} : dg e g w p q = 2 ↔ gth e g w p q := by
  unfold dg
  cases h : dB (gth e g w p q)
  · constructor
    · intro h2
      cases h3 : dB (pth e w p q)
      · rw [h3] at h2; cases h2
      · rw [h3] at h2; cases h2
    · intro h2; rw [dB_iff.mpr h2] at h; cases h
  · exact ⟨fun _ => dB_iff.mp h, fun _ => rfl⟩
theorem dg_le {e : Ed} {g : Nat → Bool} {w : List Nat} {p q : Nat} : dg e g w p q ≤ 2 := by
  unfold dg
  cases dB (gth e g w p q)
  · cases dB (pth e w p q) <;> simp
  · simp
noncomputable def cd (e : Ed) (g : Nat → Bool) (w : List Nat) (p : Nat) : Nat := dg e g w p 0 + 3 * dg e g w p 1 + 9 * dg e g w p 2
theorem tm_pos {g A d m q : Nat} : 0 < tm g A d m q ↔ A.testBit (3 * m + q) = true ∧ 0 < d := by
  unfold tm
  cases h1 : A.testBit (3 * m + q)
  · simp
  · cases h2 : Nat.beq d 0
    · have : 0 < d := Nat.pos_of_ne_zero fun h => by rw [h] at h2; cases h2
      cases g.testBit q <;> simp [this]
    · have : d = 0 := Nat.eq_of_beq_eq_true h2
      simp [this]
theorem tm_two {g A d m q : Nat} (hd : d ≤ 2) : tm g A d m q = 2 ↔ A.testBit (3 * m + q) = true ∧ 0 < d ∧ (g.testBit q = true ∨ d = 2) := by
  unfold tm
  cases h1 : A.testBit (3 * m + q)
  · simp
  · cases h2 : Nat.beq d 0
    · have : 0 < d := Nat.pos_of_ne_zero fun h => by rw [h] at h2; cases h2
      cases g.testBit q <;> simp [this]
    · have : d = 0 := Nat.eq_of_beq_eq_true h2
      simp [this]
theorem tm_le {g A d m q : Nat} (hd : d ≤ 2) : tm g A d m q ≤ 2 := by
  unfold tm
  cases A.testBit (3 * m + q)
  · simp
  · cases Nat.beq d 0
    · cases g.testBit q <;> simp [hd]
    · simp
theorem mx_eq (x y : Nat) : mx x y = max x y := by
  unfold mx
  cases h : Nat.ble x y
  · have : ¬ x ≤ y := fun h2 => by rw [Nat.ble_eq_true_of_le h2] at h; cases h
    simp only [cond_false]; omega
  · have : x ≤ y := Nat.le_of_ble_eq_true h
    simp only [cond_true]; omega
theorem lt3 {m : Nat} (h : m < 3) : m = 0 ∨ m = 1 ∨ m = 2 := by omega
/-- one letter more, in digits -/
theorem dg_step {e : Ed} {g : Nat → Bool} (hs : ∀ l p q, e l p q = true → p < 3 ∧ q < 3) {G A l : Nat} (hG : ∀ q, q < 3 → G.testBit q = g q) (hA : ∀ m q, m < 3 → q < 3 → A.testBit (3 * m + q) = e l m q) {w : List Nat} {p q : Nat} (hq : q < 3) : dg e g (w ++ [l]) p q = mx (tm G A (dg e g w p 0) 0 q) (mx (tm G A (dg e g w p 1) 1 q) (tm G A (dg e g w p 2) 2 q)) := by
  have t0 := tm_le (g := G) (A := A) (m := 0) (q := q) (dg_le (e := e) (g := g) (w := w) (p := p) (q := 0))
  have t1 := tm_le (g := G) (A := A) (m := 1) (q := q) (dg_le (e := e) (g := g) (w := w) (p := p) (q := 1))
  have t2 := tm_le (g := G) (A := A) (m := 2) (q := q) (dg_le (e := e) (g := g) (w := w) (p := p) (q := 2))
  have p0 := tm_pos (g := G) (A := A) (d := dg e g w p 0) (m := 0) (q := q)
  have p1 := tm_pos (g := G) (A := A) (d := dg e g w p 1) (m := 1) (q := q)
  have p2 := tm_pos (g := G) (A := A) (d := dg e g w p 2) (m := 2) (q := q)
  have q0 := tm_two (g := G) (A := A) (m := 0) (q := q) (dg_le (e := e) (g := g) (w := w) (p := p) (q := 0))
  have q1 := tm_two (g := G) (A := A) (m := 1) (q := q) (dg_le (e := e) (g := g) (w := w) (p := p) (q := 1))
  have q2 := tm_two (g := G) (A := A) (m := 2) (q := q) (dg_le (e := e) (g := g) (w := w) (p := p) (q := 2))
  have e1 : 0 < dg e g (w ++ [l]) p q ↔ ∃ m, m < 3 ∧ A.testBit (3 * m + q) = true ∧ 0 < dg e g w p m := by
    rw [dg_pos]
    constructor
    · intro h
      obtain ⟨m, a, q', b, c⟩ := (pth_app w [l] p q).mp h
      have c : q' = q := c
      subst c
      have hm := (hs l m q' b).1
      exact ⟨m, hm, by rw [hA m q' hm hq]; exact b, dg_pos.mpr a⟩
    · rintro ⟨m, hm, a, b⟩
      rw [hA m q hm hq] at a
      exact pth_j (dg_pos.mp b) ⟨q, a, rfl⟩
  have e2 : dg e g (w ++ [l]) p q = 2 ↔ ∃ m, m < 3 ∧ A.testBit (3 * m + q) = true ∧ 0 < dg e g w p m ∧ (G.testBit q = true ∨ dg e g w p m = 2) := by
    rw [dg_two]
    constructor
    · intro h
      obtain ⟨m, ⟨a, q', b, c⟩ | ⟨a, q', b, c⟩⟩ := (gth_app w [l] p q).mp h
      · have c : q' = q := c
        subst c
        have hm := (hs l m q' b).1
        exact ⟨m, hm, by rw [hA m q' hm hq]; exact b, dg_pos.mpr (gth_pth _ _ _ a), Or.inr (dg_two.mpr a)⟩
      · rcases c with ⟨c1, c⟩ | c
        · have c : q' = q := c
          subst c
          have hm := (hs l m q' b).1
          exact ⟨m, hm, by rw [hA m q' hm hq]; exact b, dg_pos.mpr a, Or.inl (by rw [hG q' hq]; exact c1)⟩
        · exact c.elim
    · rintro ⟨m, hm, a, b, c⟩
      rw [hA m q hm hq] at a
      rcases c with c | c
      · rw [hG q hq] at c
        exact gth_r (dg_pos.mp b) ⟨q, a, Or.inl ⟨c, rfl⟩⟩
      · exact gth_l (dg_two.mp c) ⟨q, a, rfl⟩
  have hle := dg_le (e := e) (g := g) (w := w ++ [l]) (p := p) (q := q)
  rw [mx_eq, mx_eq]
  have f1 : 0 < dg e g (w ++ [l]) p q ↔ (0 < tm G A (dg e g w p 0) 0 q ∨ 0 < tm G A (dg e g w p 1) 1 q ∨ 0 < tm G A (dg e g w p 2) 2 q) := by
    rw [e1, p0, p1, p2]
    constructor
    · rintro ⟨m, hm, h⟩
      rcases lt3 hm with rfl | rfl | rfl
      · exact Or.inl h
      · exact Or.inr (Or.inl h)
      · exact Or.inr (Or.inr h)
    · rintro (h | h | h)
      · exact ⟨0, by omega, h⟩
      · exact ⟨1, by omega, h⟩
      · exact ⟨2, by omega, h⟩
  have f2 : dg e g (w ++ [l]) p q = 2 ↔ (tm G A (dg e g w p 0) 0 q = 2 ∨ tm G A (dg e g w p 1) 1 q = 2 ∨ tm G A (dg e g w p 2) 2 q = 2) := by
    rw [e2, q0, q1, q2]
    constructor
    · rintro ⟨m, hm, h⟩
      rcases lt3 hm with rfl | rfl | rfl
      · exact Or.inl h
      · exact Or.inr (Or.inl h)
      · exact Or.inr (Or.inr h)
    · rintro (h | h | h)
      · exact ⟨0, by omega, h⟩
      · exact ⟨1, by omega, h⟩
      · exact ⟨2, by omega, h⟩
  clear e1 e2 p0 p1 p2 q0 q1 q2
  generalize dg e g (w ++ [l]) p q = D at *
  generalize tm G A (dg e g w p 0) 0 q = x at *
  generalize tm G A (dg e g w p 1) 1 q = y at *
  generalize tm G A (dg e g w p 2) 2 q = z at *
  omega
theorem cd_step {e : Ed} {g : Nat → Bool} (hs : ∀ l p q, e l p q = true → p < 3 ∧ q < 3) {G A l : Nat} (hG : ∀ q, q < 3 → G.testBit q = g q) (hA : ∀ m q, m < 3 → q < 3 → A.testBit (3 * m + q) = e l m q) {w : List Nat} {p : Nat} : cd e g (w ++ [l]) p = Fn G A (cd e g w p) := by
  have a0 := dg_le (e := e) (g := g) (w := w) (p := p) (q := 0)
  have a1 := dg_le (e := e) (g := g) (w := w) (p := p) (q := 1)
  have a2 := dg_le (e := e) (g := g) (w := w) (p := p) (q := 2)
  have h0 : cd e g w p % 3 = dg e g w p 0 := by unfold cd; omega
  have h1 : cd e g w p / 3 % 3 = dg e g w p 1 := by unfold cd; omega
  have h2 : cd e g w p / 9 = dg e g w p 2 := by unfold cd; omega
  show dg e g (w ++ [l]) p 0 + 3 * dg e g (w ++ [l]) p 1 + 9 * dg e g (w ++ [l]) p 2 = dq G A (cd e g w p) 0 + 3 * dq G A (cd e g w p) 1 + 9 * dq G A (cd e g w p) 2
  unfold dq
  rw [h0, h1, h2, dg_step hs hG hA (by omega), dg_step hs hG hA (by omega), dg_step hs hG hA (by omega)]
theorem dg_nil (e : Ed) (g : Nat → Bool) (p q : Nat) : dg e g [] p q = if p = q then 1 else 0 := by
  have h1 := dg_pos (e := e) (g := g) (w := []) (p := p) (q := q)
  have h2 := dg_two (e := e) (g := g) (w := []) (p := p) (q := q)
  have h3 := dg_le (e := e) (g := g) (w := []) (p := p) (q := q)
  have h2 : ¬ dg e g [] p q = 2 := fun h => h2.mp h
  have h1 : 0 < dg e g [] p q ↔ p = q := h1
  split
  · have := h1.mpr (by assumption); omega
  · have : ¬ 0 < dg e g [] p q := fun h => absurd (h1.mp h) (by assumption)
    omega
/-- a number of n bits as one likes -/
theorem num_of : ∀ (n : Nat) (f : Nat → Bool), ∃ A, A < 2 ^ n ∧ ∀ k, k < n → A.testBit k = f k
  | 0, f => ⟨0, by decide, fun k hk => by omega⟩
  | n + 1, f => by
    obtain ⟨A, h1, h2⟩ := num_of n (fun k => f (k + 1))
    refine ⟨2 * A + (f 0).toNat, ?_, fun k hk => ?_⟩
    · have : (f 0).toNat ≤ 1 := by cases f 0 <;> decide
      rw [Nat.pow_succ]; omega
    · cases k with
      | zero =>
        rw [Nat.testBit_zero]
        cases f 0
        · simp
        · simp [Nat.add_mod]
      | succ k =>
        rw [Nat.testBit_succ, show (2 * A + (f 0).toNat) / 2 = A by cases f 0 <;> simp <;> omega]
        exact h2 k (by omega)
/-- the digits of all words lie in a closed list -/
theorem words_in {e : Ed} {g : Nat → Bool} (hs : ∀ l p q, e l p q = true → p < 3 ∧ q < 3) {G A B : Nat} (hG : ∀ q, q < 3 → G.testBit q = g q) (hA : ∀ m q, m < 3 → q < 3 → A.testBit (3 * m + q) = e 0 m q) (hB : ∀ m q, m < 3 → q < 3 → B.testBit (3 * m + q) = e 1 m q) {L : List T3} (hL : Cl G A B L) : ∀ (w u : List Nat), (∀ l, l ∈ w → l < 2) → (cd e g u 0, cd e g u 1, cd e g u 2) ∈ L → (cd e g (u ++ w) 0, cd e g (u ++ w) 1, cd e g (u ++ w) 2) ∈ L
  | [], u, _, h => by rw [List.append_nil]; exact h
  | l :: w, u, hw, h => by
    have e1 : u ++ l :: w = (u ++ [l]) ++ w := by simp
    rw [e1]
    refine words_in hs hG hA hB hL w (u ++ [l]) (fun k hk => hw k (List.mem_cons_of_mem _ hk)) ?_
    have hl := hw l (List.mem_cons_self ..)
    rcases (show l = 0 ∨ l = 1 by omega) with rfl | rfl
    · rw [cd_step hs hG hA, cd_step hs hG hA, cd_step hs hG hA]
      exact (hL.2 _ h).1
    · rw [cd_step hs hG hB, cd_step hs hG hB, cd_step hs hG hB]
      exact (hL.2 _ h).2
theorem cd_eq {e : Ed} {g : Nat → Bool} {w w' : List Nat} {p : Nat} (h : cd e g w p = cd e g w' p) {q : Nat} (hq : q < 3) : dg e g w p q = dg e g w' p q := by
  have a0 := dg_le (e := e) (g := g) (w := w) (p := p) (q := 0)
  have a1 := dg_le (e := e) (g := g) (w := w) (p := p) (q := 1)
  have a2 := dg_le (e := e) (g := g) (w := w) (p := p) (q := 2)
  have b0 := dg_le (e := e) (g := g) (w := w') (p := p) (q := 0)
  have b1 := dg_le (e := e) (g := g) (w := w') (p := p) (q := 1)
  have b2 := dg_le (e := e) (g := g) (w := w') (p := p) (q := 2)
  unfold cd at h
  rcases lt3 hq with rfl | rfl | rfl <;> omega
/-- states by other names -/
theorem pth_ren {e : Ed} {σ : Nat → Nat} (hσ : ∀ x, σ (σ x) = x) : ∀ (w : List Nat) (p q : Nat), pth (fun l p q => e l (σ p) (σ q)) w p q ↔ pth e w (σ p) (σ q)
  | [], p, q => by
    show p = q ↔ σ p = σ q
    constructor
    · intro h; rw [h]
    · intro h; rw [← hσ p, h, hσ]
  | l :: w, p, q => by
    constructor
    · rintro ⟨m, a, b⟩
      exact ⟨σ m, a, (pth_ren hσ w m q).mp b⟩
    · rintro ⟨m, a, b⟩
      refine ⟨σ m, ?_, (pth_ren hσ w (σ m) q).mpr (by rw [hσ]; exact b)⟩
      show e l (σ p) (σ (σ m)) = true
      rw [hσ]; exact a
theorem gth_ren {e : Ed} {g : Nat → Bool} {σ : Nat → Nat} (hσ : ∀ x, σ (σ x) = x) : ∀ (w : List Nat) (p q : Nat), gth (fun l p q => e l (σ p) (σ q)) (fun q => g (σ q)) w p q ↔ gth e g w (σ p) (σ q)
  | [], p, q => Iff.rfl
  | l :: w, p, q => by
    constructor
    · rintro ⟨m, a, ⟨b, c⟩ | b⟩
      · exact ⟨σ m, a, Or.inl ⟨b, (pth_ren hσ w m q).mp c⟩⟩
      · exact ⟨σ m, a, Or.inr ((gth_ren hσ w m q).mp b)⟩
    · rintro ⟨m, a, ⟨b, c⟩ | b⟩
      · refine ⟨σ m, ?_, Or.inl ⟨?_, (pth_ren hσ w (σ m) q).mpr (by rw [hσ]; exact c)⟩⟩
        · show e l (σ p) (σ (σ m)) = true
          rw [hσ]; exact a
        · show g (σ (σ m)) = true
          rw [hσ]; exact b
      · refine ⟨σ m, ?_, Or.inr ((gth_ren hσ w (σ m) q).mpr (by rw [hσ]; exact b))⟩
        show e l (σ p) (σ (σ m)) = true
        rw [hσ]; exact a
def swp (a b x : Nat) : Nat := if x = a then b else if x = b then a else x
theorem swp_swp (a b x : Nat) : swp a b (swp a b x) = x := by
  unfold swp
  by_cases h1 : x = a
  · subst h1
    by_cases h2 : b = x
    · simp [h2]
    · simp [h2]
  · by_cases h2 : x = b
    · subst h2
      simp [h1]
    · simp [h1, h2]
theorem swp_lt {a b x n : Nat} (ha : a < n) (hb : b < n) : swp a b x < n ↔ x < n := by
  unfold swp
  split
  · subst_vars; exact ⟨fun _ => ha, fun _ => hb⟩
  · split
    · subst_vars; exact ⟨fun _ => hb, fun _ => ha⟩
    · exact Iff.rfl
theorem Cl_any {G A B : Nat} (hG : G = 0 ∨ G = 1 ∨ G = 3 ∨ G = 7) (hA : A < 512) (hB : B < 512) : ∃ L, L.length ≤ 1023 ∧ Cl G A B L := by
  have key : ∀ A B, A < 512 → B ≤ A → ∃ L, L.length ≤ 1023 ∧ Cl G A B L := fun A B hA hB => by
    rcases hG with rfl | rfl | rfl | rfl
    · exact few_Cl ckF0 hA (by omega)
    · exact pr_Cl ckT1 ckI1 hA (by omega) (all1 A hA B hB)
    · exact pr_Cl ckT3 ckI3 hA (by omega) (all3 A hA B hB)
    · exact few_Cl ckF7 hA (by omega)
  rcases Nat.le_total B A with h | h
  · exact key A B hA h
  · obtain ⟨L, h1, h2⟩ := key B A hB h
    exact ⟨L, h1, h2.swap⟩
/-- an automaton of three states at most has few passages -/
theorem pass_few {n : Nat} {g : Nat → Bool} {e : Ed} (hA : AOK n g e) (hn : n ≤ 3) : ∃ Ls : List Int32, Ls.length ≤ 1023 ∧ ∀ (w : List Nat) (P : Int32), (∀ l, l ∈ w → l < 2) → Pw n g e (fun _ => True) w P → P ∈ Ls := by
  obtain ⟨σ, hσ, hσ3, G, hG4, hG⟩ : ∃ σ : Nat → Nat, (∀ x, σ (σ x) = x) ∧ (∀ x, σ x < 3 ↔ x < 3) ∧ ∃ G, (G = 0 ∨ G = 1 ∨ G = 3 ∨ G = 7) ∧ ∀ q, q < 3 → G.testBit q = g (σ q) := by
    have id3 : ∀ G, (G = 0 ∨ G = 1 ∨ G = 3 ∨ G = 7) → G.testBit 0 = g 0 → G.testBit 1 = g 1 → G.testBit 2 = g 2 → ∃ σ : Nat → Nat, (∀ x, σ (σ x) = x) ∧ (∀ x, σ x < 3 ↔ x < 3) ∧ ∃ G, (G = 0 ∨ G = 1 ∨ G = 3 ∨ G = 7) ∧ ∀ q, q < 3 → G.testBit q = g (σ q) := fun G h h0 h1 h2 =>
      ⟨fun x => x, fun _ => rfl, fun _ => Iff.rfl, G, h, fun q hq => by rcases lt3 hq with rfl | rfl | rfl <;> assumption⟩
    have sw3 : ∀ a b G, a < 3 → b < 3 → (G = 0 ∨ G = 1 ∨ G = 3 ∨ G = 7) → G.testBit 0 = g (swp a b 0) → G.testBit 1 = g (swp a b 1) → G.testBit 2 = g (swp a b 2) → ∃ σ : Nat → Nat, (∀ x, σ (σ x) = x) ∧ (∀ x, σ x < 3 ↔ x < 3) ∧ ∃ G, (G = 0 ∨ G = 1 ∨ G = 3 ∨ G = 7) ∧ ∀ q, q < 3 → G.testBit q = g (σ q) := fun a b G ha hb h h0 h1 h2 =>
      ⟨swp a b, swp_swp a b, fun x => swp_lt ha hb, G, h, fun q hq => by rcases lt3 hq with rfl | rfl | rfl <;> assumption⟩
    cases g0 : g 0 <;> cases g1 : g 1 <;> cases g2 : g 2
    · exact id3 0 (by simp) (by rw [g0]; rfl) (by rw [g1]; rfl) (by rw [g2]; rfl)
    · exact sw3 0 2 1 (by omega) (by omega) (by simp) (by show _ = g 2; rw [g2]; rfl) (by show _ = g 1; rw [g1]; rfl) (by show _ = g 0; rw [g0]; rfl)
    · exact sw3 0 1 1 (by omega) (by omega) (by simp) (by show _ = g 1; rw [g1]; rfl) (by show _ = g 0; rw [g0]; rfl) (by show _ = g 2; rw [g2]; rfl)
    · exact sw3 0 2 3 (by omega) (by omega) (by simp) (by show _ = g 2; rw [g2]; rfl) (by show _ = g 1; rw [g1]; rfl) (by show _ = g 0; rw [g0]; rfl)
    · exact id3 1 (by simp) (by rw [g0]; rfl) (by rw [g1]; rfl) (by rw [g2]; rfl)
    · exact sw3 1 2 3 (by omega) (by omega) (by simp) (by show _ = g 0; rw [g0]; rfl) (by show _ = g 2; rw [g2]; rfl) (by show _ = g 1; rw [g1]; rfl)
    · exact id3 3 (by simp) (by rw [g0]; rfl) (by rw [g1]; rfl) (by rw [g2]; rfl)
    · exact id3 7 (by simp) (by rw [g0]; rfl) (by rw [g1]; rfl) (by rw [g2]; rfl)
  let e' : Ed := fun l p q => e l (σ p) (σ q)
  let g' : Nat → Bool := fun q => g (σ q)
  have hs : ∀ l p q, e' l p q = true → p < 3 ∧ q < 3 := fun l p q h => by
    have := hA.2.2 l _ _ h
    exact ⟨(hσ3 p).mp (by omega), (hσ3 q).mp (by omega)⟩
  have hnum : ∀ l, ∃ A, A < 512 ∧ ∀ m q, m < 3 → q < 3 → A.testBit (3 * m + q) = e' l m q := fun l => by
    obtain ⟨A, h1, h2⟩ := num_of 9 (fun k => e' l (k / 3) (k % 3))
    refine ⟨A, h1, fun m q hm hq => ?_⟩
    rw [h2 (3 * m + q) (by omega), show (3 * m + q) / 3 = m by omega, show (3 * m + q) % 3 = q by omega]
  obtain ⟨A, hA5, hAb⟩ := hnum 0
  obtain ⟨B, hB5, hBb⟩ := hnum 1
  obtain ⟨L, hL1, hL2⟩ := Cl_any hG4 hA5 hB5
  have hin : ∀ w : List Nat, (∀ l, l ∈ w → l < 2) → (cd e' g' w 0, cd e' g' w 1, cd e' g' w 2) ∈ L := fun w hw => by
    have := words_in hs hG hAb hBb hL2 w [] hw (by
      have h0 : (cd e' g' [] 0, cd e' g' [] 1, cd e' g' [] 2) = (1, 3, 9) := by
        unfold cd
        simp only [dg_nil]
        decide
      rw [h0]; exact hL2.1)
    rw [List.nil_append] at this
    exact this
  have same : ∀ w w' : List Nat, (cd e' g' w 0, cd e' g' w 1, cd e' g' w 2) = (cd e' g' w' 0, cd e' g' w' 1, cd e' g' w' 2) → ∀ P P', Pw n g e (fun _ => True) w P → Pw n g e (fun _ => True) w' P' → P = P' := fun w w' hc P P' hP hP' => by
    have hd : ∀ p q, p < 3 → q < 3 → dg e' g' w p q = dg e' g' w' p q := fun p q hp hq => by
      have c0 : cd e' g' w 0 = cd e' g' w' 0 := congrArg (fun t : T3 => t.1) hc
      have c1 : cd e' g' w 1 = cd e' g' w' 1 := congrArg (fun t : T3 => t.2.1) hc
      have c2 : cd e' g' w 2 = cd e' g' w' 2 := congrArg (fun t : T3 => t.2.2) hc
      rcases lt3 hp with rfl | rfl | rfl
      · exact cd_eq c0 hq
      · exact cd_eq c1 hq
      · exact cd_eq c2 hq
    have hpq : ∀ x y, x < n → ((pth e w x y ↔ pth e w' x y) ∧ (gth e g w x y ↔ gth e g w' x y)) := fun x y hx => by
      by_cases hy : y < 3
      · have h := hd (σ x) (σ y) ((hσ3 x).mpr (by omega)) ((hσ3 y).mpr hy)
        have a1 := pth_ren (e := e) hσ w (σ x) (σ y)
        have a2 := pth_ren (e := e) hσ w' (σ x) (σ y)
        have a3 := gth_ren (e := e) (g := g) hσ w (σ x) (σ y)
        have a4 := gth_ren (e := e) (g := g) hσ w' (σ x) (σ y)
        rw [hσ, hσ] at a1 a2 a3 a4
        rw [← a1, ← a2, ← a3, ← a4]
        have b1 : pth e' w (σ x) (σ y) ↔ pth e' w' (σ x) (σ y) := by rw [← dg_pos (g := g'), ← dg_pos (g := g'), h]
        have b2 : gth e' g' w (σ x) (σ y) ↔ gth e' g' w' (σ x) (σ y) := by rw [← dg_two, ← dg_two, h]
        exact ⟨b1, b2⟩
      · have no : ∀ w : List Nat, ¬ pth e w x y := fun w h => by have := pth_lt hA w hx h; omega
        exact ⟨⟨fun h => absurd h (no w), fun h => absurd h (no w')⟩, ⟨fun h => absurd (gth_pth _ _ _ h) (no w), fun h => absurd (gth_pth _ _ _ h) (no w')⟩⟩
    refine pass_ext (fun x y => ?_) (fun x y => ?_)
    · rw [Bool.eq_iff_iff, hP.1, hP'.1]
      exact ⟨fun ⟨a, b, c⟩ => ⟨a, b, (hpq x y a).1.mp c⟩, fun ⟨a, b, c⟩ => ⟨a, b, (hpq x y a).1.mpr c⟩⟩
    · rw [Bool.eq_iff_iff, hP.2, hP'.2]
      exact ⟨fun ⟨a, b, c⟩ => ⟨a, b, (hpq x y a).2.mp c⟩, fun ⟨a, b, c⟩ => ⟨a, b, (hpq x y a).2.mpr c⟩⟩
  have hf : ∀ t : T3, ∃ P0 : Int32, ∀ (w : List Nat) (P : Int32), (cd e' g' w 0, cd e' g' w 1, cd e' g' w 2) = t → Pw n g e (fun _ => True) w P → P = P0 := fun t => by
    by_cases h : ∃ w P, (cd e' g' w 0, cd e' g' w 1, cd e' g' w 2) = t ∧ Pw n g e (fun _ => True) w P
    · obtain ⟨w, P, h1, h2⟩ := h
      exact ⟨P, fun w' P' h3 h4 => same w' w (h3.trans h1.symm) P' P h4 h2⟩
    · exact ⟨0, fun w' P' h3 h4 => absurd ⟨w', P', h3, h4⟩ h⟩
  refine ⟨L.map fun t => Classical.choose (hf t), by simpa using hL1, fun w P hw hP => ?_⟩
  exact List.mem_map.mpr ⟨_, hin w hw, (Classical.choose_spec (hf _) w P rfl hP).symm⟩
