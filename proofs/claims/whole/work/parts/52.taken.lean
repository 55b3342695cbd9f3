/-! comesBack and takenRepeated -/
theorem bI_0 {b : Bool} : bI b = 0 ↔ b = false := by cases b <;> decide
theorem comesBack_eq (ch st : Int32) {g : Nat} (hg : g < 4) : ∃ b, m_P_comesBack ch st (nI g) = some b ∧ (b = true ↔ ∃ f, f < 4 ∧ bt st f = true ∧ rE ch f g = true) := by
  have h : ∃ r, lp (b_P_comesBack_2 ch st (nI g)) 0 = some r ∧ ((r = .inr true ∧ ∃ f, f < 4 ∧ bt st f = true ∧ rE ch f g = true) ∨ (∃ s, r = .inl s ∧ ∀ f, f < 4 → ¬ (bt st f = true ∧ rE ch f g = true))) := by
    refine lp_for 4 (fun k s => s = nI k ∧ ∀ f, f < k → ¬ (bt st f = true ∧ rE ch f g = true)) _ (fun k s hk h => ?_) (fun s h => ?_) (k := 0) ⟨rfl, fun f hf => by omega⟩ (by omega) (by omega)
    · obtain ⟨rfl, h2⟩ := h
      unfold b_P_comesBack_2
      rw [if_lt (x := 4) (B := 4) hk (by decide) rfl]
      have next : ¬ (bt st k = true ∧ rE ch k g = true) → ∀ f, f < k + 1 → ¬ (bt st f = true ∧ rE ch f g = true) := fun hn f hf => by
        by_cases e : f = k
        · subst e; exact hn
        · exact h2 f (by omega)
      cases hs : bt st k
      · rw [if_pos ((b_tst st (by omega)).mpr hs)]
        exact Or.inl ⟨_, rfl, nI_inc k, next (by simp [hs])⟩
      · rw [if_neg (by rw [b_tst st (by omega), hs]; simp), ends_eq, bd_some]
        have e : bt (en ch k) g = rE ch k g := by rw [bt_en ch hk, rE_bt hk hg]; simp [hg]
        cases hc : rE ch k g
        · rw [if_pos (by rw [b_tst _ (by omega), e, hc])]
          exact Or.inl ⟨_, rfl, nI_inc k, next (by simp [hc])⟩
        · rw [if_neg (by rw [b_tst _ (by omega), e, hc]; simp)]
          exact Or.inr ⟨_, rfl, Or.inl ⟨rfl, k, hk, hs, hc⟩⟩
    · obtain ⟨rfl, h2⟩ := h
      refine ⟨.inl (nI 4), ?_, Or.inr ⟨_, rfl, h2⟩⟩
      unfold b_P_comesBack_2
      rw [if_ge (x := 4) (B := 4) (Nat.le_refl 4) (by decide) rfl]
  obtain ⟨r, h1, ⟨rfl, h2⟩ | ⟨s, rfl, h2⟩⟩ := h
  · refine ⟨true, ?_, fun _ => h2, fun _ => rfl⟩
    unfold m_P_comesBack
    rw [h1]
    rfl
  · refine ⟨false, ?_, fun h => (by cases h), fun ⟨f, hf, h⟩ => absurd h (h2 f hf)⟩
    unfold m_P_comesBack
    rw [h1]
    rfl
/-- a loop that gathers bits: bit k iff c k -/
theorem gather_bits {bd4 : Int32 × Int32 → Option ((Int32 × Int32) ⊕ (Int32 × Int32))} (c : Nat → Prop) (hend : ∀ a, bd4 (a, nI 4) = some (.inr (a, nI 4))) (hstep : ∀ k a, k < 4 → (c k ∧ bd4 (a, nI k) = some (.inl (a ||| ((1 : Int32) <<< (nI k &&& 31)), nI k + 1))) ∨ (¬ c k ∧ bd4 (a, nI k) = some (.inl (a, nI k + 1)))) : ∃ r, lp bd4 (0, 0) = some r ∧ ∀ i, bt r.1 i = true ↔ i < 4 ∧ c i := by
  refine lp_for 4 (fun k s => s.2 = nI k ∧ ∀ i, bt s.1 i = true ↔ i < k ∧ c i) _ (fun k s hk h => ?_) (fun s h => ?_) (k := 0) ⟨rfl, fun i => ?_⟩ (by omega) (by omega)
  · obtain ⟨a, i0⟩ := s
    obtain ⟨rfl, h2⟩ := h
    rcases hstep k a hk with ⟨hc, e⟩ | ⟨hc, e⟩
    · refine Or.inl ⟨_, e, nI_inc k, fun i => ?_⟩
      rw [b_or, b_bit (by omega), Bool.or_eq_true, h2 i, decide_eq_true_eq]
      constructor
      · rintro (⟨h1, h3⟩ | rfl)
        · exact ⟨by omega, h3⟩
        · exact ⟨by omega, hc⟩
      · rintro ⟨h1, h3⟩
        by_cases e : i = k
        · exact Or.inr e
        · exact Or.inl ⟨by omega, h3⟩
    · refine Or.inl ⟨_, e, nI_inc k, fun i => ?_⟩
      rw [h2 i]
      constructor
      · rintro ⟨h1, h3⟩
        exact ⟨by omega, h3⟩
      · rintro ⟨h1, h3⟩
        by_cases e : i = k
        · subst e; exact absurd h3 hc
        · exact ⟨by omega, h3⟩
  · obtain ⟨a, i0⟩ := s
    obtain ⟨rfl, h2⟩ := h
    exact ⟨(a, nI 4), hend a, h2⟩
  · rw [b_0]
    constructor
    · intro h; cases h
    · rintro ⟨h, -⟩; omega
/-- from s, ways of the passage's word again and again come to a point c that comes back to itself with a good way -/
def Rp (p : Int32) (s : Nat) : Prop := ∃ c x, pl (rE p) s c ∧ rG p c x = true ∧ pl (rE p) x c
theorem pl_lt {R : Rl} (h4 : ∀ p q, R p q = true → p < 4 ∧ q < 4) {x y : Nat} (h : pl R x y) : x < 4 ∧ y < 4 := by
  obtain ⟨k, h⟩ := h
  induction k generalizing x with
  | zero => exact h4 x y h
  | succ k ih =>
    obtain ⟨m, h1, h2⟩ := h
    exact ⟨(h4 x m h1).1, (ih h2).2⟩
theorem rG_lt {p : Int32} {x y : Nat} (h : rG p x y = true) : x < 4 ∧ y < 4 := by
  simp only [rG, Bool.and_eq_true, decide_eq_true_eq] at h
  exact ⟨h.1, h.2.1⟩
theorem allGood : ∀ i, i < 32 → bt (-252645136) i = decide (4 ≤ i % 8) := by decide +kernel
theorem takenRepeated_eq (p : Int32) : ∃ r, m_P_takenRepeated p = some r ∧ ∀ i, bt r i = true ↔ i < 4 ∧ Rp p i := by
  unfold m_P_takenRepeated
  by_cases h0 : (p &&& (-252645136 : Int32)) = 0
  · rw [if_pos h0]
    refine ⟨0, rfl, fun i => ?_⟩
    rw [b_0]
    constructor
    · intro h; cases h
    · rintro ⟨-, c, x, -, h2, -⟩
      exfalso
      obtain ⟨hc, hx⟩ := rG_lt h2
      rw [rG_bt hc hx] at h2
      have h3 := b_eq0.mp h0 (8 * c + 4 + x) (by omega)
      rw [b_and, h2, allGood _ (by omega)] at h3
      simp only [Bool.true_and, decide_eq_false_iff_not] at h3
      omega
  · rw [if_neg h0]
    obtain ⟨ch, hch, hpl⟩ := chained_eq p
    rw [hch, bd_some]
    obtain ⟨r1, h1, h2⟩ := gather_bits (bd4 := b_P_takenRepeated_18 p ch) (fun k => ∃ x, rG p k x = true ∧ pl (rE p) x k) (fun a => by
      unfold b_P_takenRepeated_18
      show (if (4 : Int32) ≤ nI 4 then _ else _) = _
      rw [if_ge (x := 4) (B := 4) (Nat.le_refl 4) (by decide) rfl]) (fun k a hk => by
      obtain ⟨b, e1, e2⟩ := comesBack_eq ch (gn p k) hk
      have e3 : b = true ↔ ∃ x, rG p k x = true ∧ pl (rE p) x k := by
        rw [e2]
        constructor
        · rintro ⟨f, hf, a1, a2⟩
          rw [bt_gn p hk] at a1
          simp only [hf, decide_true, Bool.true_and] at a1
          exact ⟨f, by rw [rG_bt hk hf]; exact a1, (hpl f k).mp a2⟩
        · rintro ⟨x, a1, a2⟩
          obtain ⟨-, hx⟩ := rG_lt a1
          rw [rG_bt hk hx] at a1
          exact ⟨x, hx, by rw [bt_gn p hk]; simp [hx, a1], (hpl x k).mpr a2⟩
      unfold b_P_takenRepeated_18
      show (_ ∧ (if (4 : Int32) ≤ nI k then _ else _) = _) ∨ (_ ∧ (if (4 : Int32) ≤ nI k then _ else _) = _)
      rw [if_lt (x := 4) (B := 4) hk (by decide) rfl, goodEnds_eq, bd_some, e1, bd_some]
      cases b with
      | true => exact Or.inl ⟨e3.mp rfl, rfl⟩
      | false => exact Or.inr ⟨fun h => (by have := e3.mpr h; cases this), rfl⟩)
    rw [h1, bd_some]
    obtain ⟨r2, h3, h4⟩ := gather_bits (bd4 := b_P_takenRepeated_53 ch r1.1) (fun k => Rp p k) (fun a => by
      unfold b_P_takenRepeated_53
      show (if (4 : Int32) ≤ nI 4 then _ else _) = _
      rw [if_ge (x := 4) (B := 4) (Nat.le_refl 4) (by decide) rfl]) (fun k a hk => by
      unfold b_P_takenRepeated_53
      show (_ ∧ (if (4 : Int32) ≤ nI k then _ else _) = _) ∨ (_ ∧ (if (4 : Int32) ≤ nI k then _ else _) = _)
      rw [if_lt (x := 4) (B := 4) hk (by decide) rfl, ends_eq, bd_some]
      by_cases hz : (en ch k &&& r1.1) = 0
      · rw [if_pos hz]
        refine Or.inr ⟨?_, rfl⟩
        rintro ⟨c, x, a1, a2, a3⟩
        obtain ⟨-, hc⟩ := pl_lt (fun _ _ h => rE_lt h) a1
        have h5 := b_eq0.mp hz c (by omega)
        have h6 : rE ch k c = true := (hpl k c).mpr a1
        rw [rE_bt hk hc] at h6
        rw [b_and, bt_en ch hk, h6, (h2 c).mpr ⟨hc, x, a2, a3⟩] at h5
        simp [hc] at h5
      · rw [if_neg hz]
        refine Or.inl ⟨?_, rfl⟩
        have : ∃ c, c < 32 ∧ bt (en ch k &&& r1.1) c = true := by
          apply Classical.byContradiction
          intro hn
          exact hz (b_eq0.mpr fun i hi => by
            cases e : bt (en ch k &&& r1.1) i
            · rfl
            · exact absurd ⟨i, hi, e⟩ hn)
        obtain ⟨c, -, hc⟩ := this
        rw [b_and, bt_en ch hk, Bool.and_eq_true, Bool.and_eq_true, decide_eq_true_eq] at hc
        obtain ⟨⟨hc4, hc1⟩, hc2⟩ := hc
        obtain ⟨-, x, a2, a3⟩ := (h2 c).mp hc2
        exact ⟨c, x, (hpl k c).mp (by rw [rE_bt hk hc4]; exact hc1), a2, a3⟩)
    rw [h3, bd_some]
    exact ⟨r2.1, rfl, h4⟩
