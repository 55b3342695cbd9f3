/-! an automaton, and the picture that the class keeps of it -/
def AOK (n : Nat) (g : Nat → Bool) (e : Ed) : Prop := n ≤ 4 ∧ (∀ q, g q = true → q < n) ∧ ∀ l p q, e l p q = true → l < 2 ∧ p < n ∧ q < n
def CP (M : Mm) (j n : Nat) (g : Nat → Bool) (e : Ed) : Prop := M.1 (0, j) 0 = nI n ∧ (∀ q, q < 32 → bt (M.1 (0, j) 1) q = g q) ∧ ∀ l, l < 2 → ∀ t, t < 16 → ∀ q, q < 32 → (bt (M.1 (1, j) (16 * l + t)) q = true ↔ ∃ s, s < 4 ∧ t.testBit s = true ∧ e l s q = true)
theorem lenI_fo {j : Nat} (h : j < 7) : lenI j = 32 := if_pos h
theorem and15 (x : Int32) : x &&& 15 = nI (x.toBitVec.toNat % 16) := pk_and x 4 (by decide)
theorem and15_bit (x : Int32) {s : Nat} (hs : s < 4) : (x.toBitVec.toNat % 16).testBit s = bt x s := by
  rw [show (16 : Nat) = 2 ^ 4 from rfl, Nat.testBit_mod_two_pow]
  simp [hs, bt, BitVec.getLsbD]
theorem letter1 : ∀ l, l < 2 → (nI l &&& 1) * 16 = nI (16 * l) := by decide +kernel
theorem followersOf_eq {M : Mm} {j n : Nat} {g : Nat → Bool} {e : Ed} (hj : j < 7) (hC : CP M j n g e) (x : Int32) {l : Nat} (hl : l < 2) : ∃ v, m_A_followersOf j x (nI l) M = some v ∧ ∀ q, q < 32 → (bt v q = true ↔ ∃ s, s < 4 ∧ bt x s = true ∧ e l s q = true) := by
  have ht : x.toBitVec.toNat % 16 < 16 := Nat.mod_lt _ (by omega)
  generalize hte : x.toBitVec.toNat % 16 = t at ht
  have hix : (nI l &&& 1) * 16 + (x &&& 15) = nI (16 * l + t) := by rw [letter1 l hl, and15, hte, nI_add]
  refine ⟨M.1 (1, j) (16 * l + t), ?_, fun q hq => ?_⟩
  · unfold m_A_followersOf
    rw [hix, ck_of (vp_inb (by rw [lenI_fo hj]; exact vp_in_nI (by omega) (by omega))), nI_clamp (by omega)]
  · rw [hC.2.2 l hl t ht q hq]
    constructor
    · rintro ⟨s, h1, h2, h3⟩
      refine ⟨s, h1, ?_, h3⟩
      rw [← and15_bit x h1, hte]; exact h2
    · rintro ⟨s, h1, h2, h3⟩
      refine ⟨s, h1, ?_, h3⟩
      rw [← hte, and15_bit x h1]; exact h2
/-- a passage is told by its two relations -/
theorem pass_ext {a b : Int32} (h1 : ∀ x y, rE a x y = rE b x y) (h2 : ∀ x y, rG a x y = rG b x y) : a = b := by
  refine b_ext fun i hi => ?_
  by_cases hm : i % 8 < 4
  · have := h1 (i / 8) (i % 8)
    rw [rE_bt (by omega) hm, rE_bt (by omega) hm] at this
    rw [show 8 * (i / 8) + i % 8 = i by omega] at this
    exact this
  · have := h2 (i / 8) (i % 8 - 4)
    rw [rG_bt (by omega) (by omega), rG_bt (by omega) (by omega)] at this
    rw [show 8 * (i / 8) + 4 + (i % 8 - 4) = i by omega] at this
    exact this
/-- the passage of a word, over the origins o -/
def Pw (n : Nat) (g : Nat → Bool) (e : Ed) (o : Nat → Prop) (w : List Nat) (P : Int32) : Prop := (∀ x y, rE P x y = true ↔ x < n ∧ o x ∧ pth e w x y) ∧ ∀ x y, rG P x y = true ↔ x < n ∧ o x ∧ gth e g w x y
theorem pth_lt {n : Nat} {g : Nat → Bool} {e : Ed} (hA : AOK n g e) : ∀ (w : List Nat) {x y : Nat}, x < n → pth e w x y → y < n
  | [], x, y, hx, h => by cases h; exact hx
  | l :: w, x, y, _, ⟨m, h1, h2⟩ => pth_lt hA w (hA.2.2 l x m h1).2.2 h2
theorem row_put (c a b : Int32) {f : Nat} (hf : f < 4) (ha : ∀ q, q < 32 → bt a q = true → q < 4) (hb : ∀ q, q < 32 → bt b q = true → q < 4) {i : Nat} (hi : i < 32) : bt (c ||| ((a ||| (b <<< ((4 : Int32) &&& 31))) <<< (nI (8 * f) &&& 31))) i = (bt c i || (decide (i / 8 = f) && (if i % 8 < 4 then bt a (i % 8) else bt b (i % 8 - 4)))) := by
  rw [b_or, b_shl (8 * f) (by omega) _ hi]
  congr 1
  by_cases e1 : 8 * f ≤ i
  · have hlt : i - 8 * f < 32 := by omega
    rw [b_or, show (4 : Int32) = nI 4 from rfl, b_shl 4 (by omega) b hlt]
    by_cases e2 : i / 8 = f
    · have e3 : i - 8 * f = i % 8 := by omega
      rw [e3]
      by_cases e4 : i % 8 < 4
      · simp [e1, e2, e4, Nat.not_le.mpr e4]
      · have : bt a (i % 8) = false := by
          cases h : bt a (i % 8)
          · rfl
          · exact absurd (ha _ (by omega) h) e4
        simp [e1, e2, e4, this, Nat.le_of_not_lt e4]
    · have h1 : bt a (i - 8 * f) = false := by
        cases h : bt a (i - 8 * f)
        · rfl
        · have := ha _ hlt h; omega
      have h2 : (decide (4 ≤ i - 8 * f) && bt b (i - 8 * f - 4)) = false := by
        cases h : bt b (i - 8 * f - 4)
        · simp
        · have := hb _ (by omega) h; omega
      rw [h1, h2]
      simp [e2]
  · have e2 : ¬ i / 8 = f := by omega
    simp [e1, e2]
theorem longer_eq {M : Mm} {j n : Nat} {g : Nat → Bool} {e : Ed} (hj : j < 7) (hA : AOK n g e) (hC : CP M j n g e) (p : Int32) {l : Nat} (hl : l < 2) : ∃ r, m_A_longerPassage j p (nI l) M = some r ∧ (∀ x y, rE r x y = true ↔ x < n ∧ ∃ m, rE p x m = true ∧ e l m y = true) ∧ ∀ x y, rG r x y = true ↔ x < n ∧ ((∃ m, rG p x m = true ∧ e l m y = true) ∨ ((∃ m, rE p x m = true ∧ e l m y = true) ∧ g y = true)) := by
  have hn := hA.1
  have h : ∃ r, lp (b_A_longerPassage_5 j p (nI l) M) (0, 0) = some r ∧ ∀ i, i < 32 → (bt r.1 i = true ↔ i / 8 < n ∧ (if i % 8 < 4 then (∃ m, rE p (i / 8) m = true ∧ e l m (i % 8) = true) else ((∃ m, rG p (i / 8) m = true ∧ e l m (i % 8 - 4) = true) ∨ ((∃ m, rE p (i / 8) m = true ∧ e l m (i % 8 - 4) = true) ∧ g (i % 8 - 4) = true)))) := by
    refine lp_for n (fun k s => s.2 = nI k ∧ ∀ i, i < 32 → (bt s.1 i = true ↔ i / 8 < k ∧ (if i % 8 < 4 then (∃ m, rE p (i / 8) m = true ∧ e l m (i % 8) = true) else ((∃ m, rG p (i / 8) m = true ∧ e l m (i % 8 - 4) = true) ∨ ((∃ m, rE p (i / 8) m = true ∧ e l m (i % 8 - 4) = true) ∧ g (i % 8 - 4) = true))))) _ (fun k s hk h => ?_) (fun s h => ?_) (k := 0) ⟨rfl, fun i hi => ?_⟩ (by omega) (by omega)
    · obtain ⟨c, i0⟩ := s
      obtain ⟨rfl, h2⟩ := h
      have hk4 : k < 4 := by omega
      obtain ⟨v1, a1, a2⟩ := followersOf_eq hj hC (en p k) hl
      obtain ⟨v2, a3, a4⟩ := followersOf_eq hj hC (gn p k) hl
      have b1 : ∀ q, q < 32 → (bt v1 q = true ↔ ∃ m, rE p k m = true ∧ e l m q = true) := fun q hq => by
        rw [a2 q hq]
        constructor
        · rintro ⟨s, h3, h4, h5⟩
          rw [bt_en p hk4] at h4
          exact ⟨s, by rw [rE_bt hk4 h3]; simpa [h3] using h4, h5⟩
        · rintro ⟨m, h3, h4⟩
          have hm := (rE_lt h3).2
          rw [rE_bt hk4 hm] at h3
          exact ⟨m, hm, by rw [bt_en p hk4]; simp [hm, h3], h4⟩
      have b2 : ∀ q, q < 32 → (bt v2 q = true ↔ ∃ m, rG p k m = true ∧ e l m q = true) := fun q hq => by
        rw [a4 q hq]
        constructor
        · rintro ⟨s, h3, h4, h5⟩
          rw [bt_gn p hk4] at h4
          exact ⟨s, by rw [rG_bt hk4 h3]; simpa [h3] using h4, h5⟩
        · rintro ⟨m, h3, h4⟩
          have hm := (rG_lt h3).2
          rw [rG_bt hk4 hm] at h3
          exact ⟨m, hm, by rw [bt_gn p hk4]; simp [hm, h3], h4⟩
      have c1 : ∀ q, q < 32 → bt v1 q = true → q < 4 := fun q hq h => by
        obtain ⟨m, -, h4⟩ := (b1 q hq).mp h
        have := (hA.2.2 l m q h4).2.2; omega
      have b3 : ∀ q, q < 32 → (bt (v2 ||| (v1 &&& M.1 (0, j) 1)) q = true ↔ ((∃ m, rG p k m = true ∧ e l m q = true) ∨ ((∃ m, rE p k m = true ∧ e l m q = true) ∧ g q = true))) := fun q hq => by
        rw [b_or, b_and, Bool.or_eq_true, Bool.and_eq_true, b1 q hq, b2 q hq, hC.2.1 q hq]
      have c2 : ∀ q, q < 32 → bt (v2 ||| (v1 &&& M.1 (0, j) 1)) q = true → q < 4 := fun q hq h => by
        rcases (b3 q hq).mp h with ⟨m, -, h4⟩ | ⟨⟨m, -, h4⟩, -⟩ <;> (have := (hA.2.2 l m q h4).2.2; omega)
      refine Or.inl ⟨(c ||| ((v1 ||| ((v2 ||| (v1 &&& M.1 (0, j) 1)) <<< ((4 : Int32) &&& 31))) <<< (nI (8 * k) &&& 31)), nI (k + 1)), ?_, rfl, fun i hi => ?_⟩
      · unfold b_A_longerPassage_5
        show (if M.1 (0, j) 0 ≤ nI k then _ else _) = _
        rw [if_lt hk (by omega) hC.1, ends_eq, bd_some, a1, bd_some, goodEnds_eq, bd_some, a3, bd_some, bd_some, i8, nI_inc]
      · rw [row_put c v1 _ hk4 c1 c2 hi, Bool.or_eq_true, h2 i hi, Bool.and_eq_true, decide_eq_true_eq]
        by_cases ek : i / 8 = k
        · rw [ek]
          by_cases em : i % 8 < 4
          · simp only [em, if_true, b1 (i % 8) (by omega)]
            constructor
            · rintro (⟨h3, -⟩ | ⟨-, h3⟩)
              · omega
              · exact ⟨by omega, h3⟩
            · rintro ⟨-, h3⟩
              exact Or.inr ⟨trivial, h3⟩
          · simp only [em, if_false, b3 (i % 8 - 4) (by omega)]
            constructor
            · rintro (⟨h3, -⟩ | ⟨-, h3⟩)
              · omega
              · exact ⟨by omega, h3⟩
            · rintro ⟨-, h3⟩
              exact Or.inr ⟨trivial, h3⟩
        · constructor
          · rintro (⟨h3, h4⟩ | ⟨h3, -⟩)
            · exact ⟨by omega, h4⟩
            · exact absurd h3 ek
          · rintro ⟨h3, h4⟩
            exact Or.inl ⟨by omega, h4⟩
    · obtain ⟨c, i0⟩ := s
      obtain ⟨rfl, h2⟩ := h
      refine ⟨(c, nI n), ?_, h2⟩
      unfold b_A_longerPassage_5
      show (if M.1 (0, j) 0 ≤ nI n then _ else _) = _
      rw [if_ge (Nat.le_refl n) (by omega) hC.1]
    · show bt 0 i = true ↔ _
      rw [b_0]
      constructor
      · intro h; cases h
      · rintro ⟨h, -⟩; omega
  obtain ⟨r, h1, h2⟩ := h
  refine ⟨r.1, ?_, fun x y => ?_, fun x y => ?_⟩
  · unfold m_A_longerPassage
    rw [h1, bd_some]
  · constructor
    · intro h
      obtain ⟨hx, hy⟩ := rE_lt h
      rw [rE_bt hx hy, h2 _ (by omega), show (8 * x + y) / 8 = x by omega, show (8 * x + y) % 8 = y by omega, if_pos hy] at h
      exact h
    · rintro ⟨hx, m, h3, h4⟩
      have hy := (hA.2.2 l m y h4).2.2
      rw [rE_bt (by omega) (by omega), h2 _ (by omega), show (8 * x + y) / 8 = x by omega, show (8 * x + y) % 8 = y by omega, if_pos (by omega)]
      exact ⟨hx, m, h3, h4⟩
  · have key : ∀ hx : x < 4, ∀ hy : y < 4, (rG r.1 x y = true ↔ x < n ∧ ((∃ m, rG p x m = true ∧ e l m y = true) ∨ ((∃ m, rE p x m = true ∧ e l m y = true) ∧ g y = true))) := fun hx hy => by
      rw [rG_bt hx hy, h2 _ (by omega), show (8 * x + 4 + y) / 8 = x by omega, show (8 * x + 4 + y) % 8 = 4 + y by omega, if_neg (by omega), show 4 + y - 4 = y by omega]
    constructor
    · intro h
      obtain ⟨hx, hy⟩ := rG_lt h
      exact (key hx hy).mp h
    · intro h
      have hy : y < n := by
        rcases h.2 with ⟨m, -, h4⟩ | ⟨⟨m, -, h4⟩, -⟩
        · exact (hA.2.2 l m y h4).2.2
        · exact (hA.2.2 l m y h4).2.2
      exact (key (by omega) (by omega)).mpr h
/-- one letter more -/
theorem longer_word {M : Mm} {j n : Nat} {g : Nat → Bool} {e : Ed} {o : Nat → Prop} {w : List Nat} {p : Int32} (hj : j < 7) (hA : AOK n g e) (hC : CP M j n g e) (hp : Pw n g e o w p) {l : Nat} (hl : l < 2) : ∃ r, m_A_longerPassage j p (nI l) M = some r ∧ Pw n g e o (w ++ [l]) r := by
  obtain ⟨r, h1, h2, h3⟩ := longer_eq hj hA hC p hl
  have hE : ∀ x y, x < n → ((∃ m, rE p x m = true ∧ e l m y = true) ↔ o x ∧ pth e (w ++ [l]) x y) := fun x y hx => by
    constructor
    · rintro ⟨m, a, b⟩
      obtain ⟨-, ho, a⟩ := (hp.1 x m).mp a
      exact ⟨ho, pth_j a ⟨y, b, rfl⟩⟩
    · rintro ⟨ho, h⟩
      obtain ⟨m, a, y', b, rfl⟩ := (pth_app w [l] x y).mp h
      exact ⟨m, (hp.1 x m).mpr ⟨hx, ho, a⟩, b⟩
  refine ⟨r, h1, fun x y => ?_, fun x y => ?_⟩
  · rw [h2 x y]
    constructor
    · rintro ⟨hx, h⟩
      exact ⟨hx, (hE x y hx).mp h⟩
    · rintro ⟨hx, h⟩
      exact ⟨hx, (hE x y hx).mpr h⟩
  · rw [h3 x y]
    constructor
    · rintro ⟨hx, ⟨m, a, b⟩ | ⟨h, hg⟩⟩
      · obtain ⟨-, ho, a⟩ := (hp.2 x m).mp a
        exact ⟨hx, ho, gth_l a ⟨y, b, rfl⟩⟩
      · obtain ⟨m, a, b⟩ := h
        obtain ⟨-, ho, a⟩ := (hp.1 x m).mp a
        exact ⟨hx, ho, gth_r a ⟨y, b, Or.inl ⟨hg, rfl⟩⟩⟩
    · rintro ⟨hx, ho, h⟩
      obtain ⟨m, ⟨a, y', b, rfl⟩ | ⟨a, y', b, ⟨c, rfl⟩ | c⟩⟩ := (gth_app w [l] x y).mp h
      · exact ⟨hx, Or.inl ⟨m, (hp.2 x m).mpr ⟨hx, ho, a⟩, b⟩⟩
      · exact ⟨hx, Or.inr ⟨⟨m, (hp.1 x m).mpr ⟨hx, ho, a⟩, b⟩, c⟩⟩
      · exact c.elim
