/-! the class's append, copy, becomePart -/
theorem isGood_eq {M : Mm} {j n : Nat} {g : Nat → Bool} {e : Ed} (hC : CP M j n g e) {k : Nat} (hk : k < 32) : m_A_isGood j (nI k) M = some (g k) := by
  unfold m_A_isGood
  have h := hC.2.1 k hk
  cases hg : g k
  · rw [if_pos (by rw [b_tst _ hk, h, hg])]
  · rw [if_neg (by rw [b_tst _ hk, h, hg]; simp)]
theorem follow1_eq {M : Mm} {j n : Nat} {g : Nat → Bool} {e : Ed} (hj : j < 7) (hC : CP M j n g e) {p l : Nat} (hp : p < 4) (hl : l < 2) : ∃ v, m_A_followersOf j ((1 : Int32) <<< (nI p &&& 31)) (nI l) M = some v ∧ ∀ q, q < 32 → bt v q = e l p q := by
  obtain ⟨v, h1, h2⟩ := followersOf_eq hj hC ((1 : Int32) <<< (nI p &&& 31)) hl
  refine ⟨v, h1, fun q hq => ?_⟩
  rw [Bool.eq_iff_iff, h2 q hq]
  constructor
  · rintro ⟨s, -, a2, a3⟩
    rw [b_bit (by omega), decide_eq_true_eq] at a2
    subst a2; exact a3
  · intro h
    exact ⟨p, hp, by rw [b_bit (by omega)]; simp, h⟩
theorem addRow_iff (e : Ed) (l f n : Nat) (x : Nat → Bool) (l' p q : Nat) : addRow e l f n x l' p q = true ↔ e l' p q = true ∨ (l' = l ∧ p = f ∧ q < n ∧ x q = true) := by
  simp only [addRow, Bool.or_eq_true, Bool.and_eq_true, decide_eq_true_eq]
def apG (n0 : Nat) (g0 g1 : Nat → Bool) : Nat → Bool := fun q => g0 q || (decide (n0 ≤ q) && g1 (q - n0))
def apE (n0 : Nat) (e0 e1 : Ed) : Ed := fun l p q => e0 l p q || (decide (n0 ≤ q) && ((decide (n0 ≤ p) && e1 l (p - n0) (q - n0)) || (decide (p = 0) && e1 l 0 (q - n0))))
/-- what stands after the letters below l, and the sources below k of letter l -/
def apS (n0 : Nat) (e0 e1 : Ed) (l k : Nat) (E : Ed) : Prop := ∀ l' p q, E l' p q = true ↔ e0 l' p q = true ∨ (n0 ≤ q ∧ ∃ f, e1 l' f (q - n0) = true ∧ (p = n0 + f ∨ (p = 0 ∧ f = 0)) ∧ (l' < l ∨ (l' = l ∧ f < k)))
theorem append_eq {M : Mm} {i j n0 n1 : Nat} {g0 g1 : Nat → Bool} {e0 e1 : Ed} (hi : i < 7) (hj : j < 7) (hij : i ≠ j) (hC0 : CP M j n0 g0 e0) (hC1 : CP M i n1 g1 e1) (hA1 : AOK n1 g1 e1) (hn : n0 + n1 ≤ 4) : ∃ M', m_A_append j i M = some M' ∧ CP M' j (n0 + n1) (apG n0 g0 g1) (apE n0 e0 e1) ∧ Frm (uA j) M M' := by
  have other : ∀ {A : Mm}, Frm (uA j) M A → CP A i n1 g1 e1 := fun {A} hF => CP_frm hC1 hF (by rintro (h | h) <;> cases h; exact hij rfl) (by rintro (h | h) <;> cases h; exact hij rfl)
  have h1 : ∃ r, lp (b_A_append_7 j i) (0, M) = some r ∧ (CP r.2 j (n0 + n1) (apG n0 g0 g1) e0 ∧ Frm (uA j) M r.2) := by
    refine lp_for n1 (fun k s => s.1 = nI k ∧ CP s.2 j (n0 + k) (fun q => g0 q || (decide (n0 ≤ q) && (decide (q < n0 + k) && g1 (q - n0)))) e0 ∧ Frm (uA j) M s.2) _ (fun k s hk h => ?_) (fun s h => ?_) (k := 0) ⟨rfl, CP_ext hC0 (fun q _ => ?_) (fun _ _ _ => rfl), Frm.rfl⟩ (by omega) (by omega)
    · obtain ⟨i0, A⟩ := s
      obtain ⟨rfl, h2, h3⟩ := h
      have h2 : CP A j (n0 + k) (fun q => g0 q || (decide (n0 ≤ q) && (decide (q < n0 + k) && g1 (q - n0)))) e0 := h2
      have hCi := other h3
      obtain ⟨B, b1, b2, b3⟩ := addState_eq h2 (by omega) (g1 k)
      refine Or.inl ⟨(nI k + 1, B), ?_, nI_inc k, CP_ext b2 (fun q hq => ?_) (fun _ _ _ => rfl), h3.trans b3⟩
      · unfold b_A_append_7
        show (if A.1 (0, i) 0 ≤ nI k then _ else _) = _
        rw [if_lt hk (by omega) hCi.1]
        show bd (m_A_isGood i (nI k) A) _ = _
        rw [isGood_eq hCi (by omega), bd_some]
        show bd (m_A_addState j (g1 k) A) _ = _
        rw [b1, bd_some]
      · simp only [addG]
        by_cases e1 : q = n0 + k
        · subst e1
          rw [show n0 + k - n0 = k by omega]
          simp [show n0 + k < n0 + (k + 1) by omega]
        · by_cases e2 : q < n0 + k
          · simp [e1, e2, show q < n0 + (k + 1) by omega]
          · simp [e1, e2, show ¬ q < n0 + (k + 1) by omega]
    · obtain ⟨i0, A⟩ := s
      obtain ⟨rfl, h2, h3⟩ := h
      refine ⟨(nI n1, A), ?_, CP_ext h2 (fun q hq => ?_) (fun _ _ _ => rfl), h3⟩
      · unfold b_A_append_7
        show (if A.1 (0, i) 0 ≤ nI n1 then _ else _) = _
        rw [if_ge (Nat.le_refl _) (by omega) (other h3).1]
      · simp only [apG]
        cases hg : g1 (q - n0)
        · simp
        · have := hA1.2.1 _ hg
          by_cases e2 : n0 ≤ q
          · simp [show q < n0 + n1 by omega]
          · simp [e2]
    · rw [show decide (q < n0 + 0) = decide (q < n0) from rfl]
      by_cases e2 : n0 ≤ q
      · simp [show ¬ q < n0 by omega]
      · simp [e2]
  obtain ⟨r1, h1, hr1, hF1⟩ := h1
  have inner : ∀ (l : Nat), l < 2 → ∀ (A : Mm), (∃ E, CP A j (n0 + n1) (apG n0 g0 g1) E ∧ apS n0 e0 e1 l 0 E) → Frm (uA j) M A → ∃ r, lp (b_A_append_41 j i (nI n0) (nI l)) (0, A) = some r ∧ ((∃ E, CP r.2 j (n0 + n1) (apG n0 g0 g1) E ∧ apS n0 e0 e1 (l + 1) 0 E) ∧ Frm (uA j) M r.2) := by
    intro l hl A hE hFA
    refine lp_for n1 (fun k s => s.1 = nI k ∧ (∃ E, CP s.2 j (n0 + n1) (apG n0 g0 g1) E ∧ apS n0 e0 e1 l k E) ∧ Frm (uA j) M s.2) _ (fun k s hk h => ?_) (fun s h => ?_) (k := 0) ⟨rfl, hE, hFA⟩ (by omega) (by omega)
    · obtain ⟨i0, B⟩ := s
      obtain ⟨rfl, ⟨E, h2, h4⟩, h3⟩ := h
      have h2 : CP B j (n0 + n1) (apG n0 g0 g1) E := h2
      have hCi := other h3
      obtain ⟨v, v1, v2⟩ := follow1_eq hi hCi (p := k) (by omega) hl
      have hx : ∀ q, q < 32 → (bt (v <<< (nI n0 &&& 31)) q = true ↔ n0 ≤ q ∧ e1 l k (q - n0) = true) := fun q hq => by
        rw [b_shl n0 (by omega) _ hq, Bool.and_eq_true, decide_eq_true_eq, v2 _ (by omega)]
      obtain ⟨C, c1, c2, c3⟩ := joinAll_eq hj hn h2 hl (f := n0 + k) (by omega) (v <<< (nI n0 &&& 31))
      unfold b_A_append_41
      show (∃ s', (if B.1 (0, i) 0 ≤ nI k then _ else _) = _ ∧ _) ∨ (∃ r, (if B.1 (0, i) 0 ≤ nI k then _ else _) = _ ∧ _)
      rw [if_lt hk (by omega) hCi.1]
      show (∃ s', bd (m_A_followersOf i ((1 : Int32) <<< (nI k &&& 31)) (nI l) B) _ = _ ∧ _) ∨ _
      rw [v1, bd_some, nI_add]
      show (∃ s', bd (m_A_joinAll j (nI (n0 + k)) (nI l) (v <<< (nI n0 &&& 31)) B) _ = _ ∧ _) ∨ _
      rw [c1, bd_some]
      by_cases hk0 : k = 0
      · subst hk0
        obtain ⟨D, d1, d2, d3⟩ := joinAll_eq hj hn c2 hl (f := 0) (by omega) (v <<< (nI n0 &&& 31))
        rw [if_pos nI_0]
        show (∃ s', bd (m_A_joinAll j (nI 0) (nI l) (v <<< (nI n0 &&& 31)) C) _ = _ ∧ _) ∨ _
        rw [d1, bd_some]
        refine Or.inl ⟨(nI 0 + 1, D), rfl, nI_inc 0, ⟨_, d2, fun l' p q => ?_⟩, (h3.trans c3).trans d3⟩
        rw [addRow_iff, addRow_iff, h4 l' p q]
        constructor
        · rintro (((h | ⟨a0, f, a1, a2, a3 | ⟨-, a3⟩⟩) | ⟨rfl, rfl, a1, a2⟩) | ⟨rfl, rfl, a1, a2⟩)
          · exact Or.inl h
          · exact Or.inr ⟨a0, f, a1, a2, Or.inl a3⟩
          · omega
          · have := (hx q (by omega)).mp a2
            exact Or.inr ⟨this.1, 0, this.2, Or.inl rfl, Or.inr ⟨rfl, by omega⟩⟩
          · have := (hx q (by omega)).mp a2
            exact Or.inr ⟨this.1, 0, this.2, Or.inr ⟨rfl, rfl⟩, Or.inr ⟨rfl, by omega⟩⟩
        · rintro (h | ⟨a0, f, a1, a2, a3 | ⟨a3, a4⟩⟩)
          · exact Or.inl (Or.inl (Or.inl h))
          · exact Or.inl (Or.inl (Or.inr ⟨a0, f, a1, a2, Or.inl a3⟩))
          · have e0' : f = 0 := by omega
            subst e0'
            subst a3
            have hq := (hA1.2.2 _ _ _ a1).2.2
            rcases a2 with a2 | ⟨a2, -⟩
            · exact Or.inl (Or.inr ⟨rfl, a2, by omega, (hx q (by omega)).mpr ⟨a0, a1⟩⟩)
            · exact Or.inr ⟨rfl, a2, by omega, (hx q (by omega)).mpr ⟨a0, a1⟩⟩
      · rw [if_neg (nI_ne0 (by omega) (by omega))]
        refine Or.inl ⟨(nI k + 1, C), rfl, nI_inc k, ⟨_, c2, fun l' p q => ?_⟩, h3.trans c3⟩
        rw [addRow_iff, h4 l' p q]
        constructor
        · rintro ((h | ⟨a0, f, a1, a2, a3 | ⟨a3, a4⟩⟩) | ⟨rfl, rfl, a1, a2⟩)
          · exact Or.inl h
          · exact Or.inr ⟨a0, f, a1, a2, Or.inl a3⟩
          · exact Or.inr ⟨a0, f, a1, a2, Or.inr ⟨a3, by omega⟩⟩
          · have := (hx q (by omega)).mp a2
            exact Or.inr ⟨this.1, k, this.2, Or.inl rfl, Or.inr ⟨rfl, by omega⟩⟩
        · rintro (h | ⟨a0, f, a1, a2, a3 | ⟨a3, a4⟩⟩)
          · exact Or.inl (Or.inl h)
          · exact Or.inl (Or.inr ⟨a0, f, a1, a2, Or.inl a3⟩)
          · by_cases ef : f = k
            · subst ef
              subst a3
              have hq := (hA1.2.2 _ _ _ a1).2.2
              rcases a2 with a2 | ⟨-, a2⟩
              · exact Or.inr ⟨rfl, a2, by omega, (hx q (by omega)).mpr ⟨a0, a1⟩⟩
              · exact absurd a2 hk0
            · exact Or.inl (Or.inr ⟨a0, f, a1, a2, Or.inr ⟨a3, by omega⟩⟩)
    · obtain ⟨i0, B⟩ := s
      obtain ⟨rfl, ⟨E, h2, h4⟩, h3⟩ := h
      refine ⟨(nI n1, B), ?_, ⟨E, h2, fun l' p q => ?_⟩, h3⟩
      · unfold b_A_append_41
        show (if B.1 (0, i) 0 ≤ nI n1 then _ else _) = _
        rw [if_ge (Nat.le_refl _) (by omega) (other h3).1]
      · rw [h4 l' p q]
        constructor
        · rintro (h | ⟨a0, f, a1, a2, a3 | ⟨a3, a4⟩⟩)
          · exact Or.inl h
          · exact Or.inr ⟨a0, f, a1, a2, Or.inl (by omega)⟩
          · exact Or.inr ⟨a0, f, a1, a2, Or.inl (by omega)⟩
        · rintro (h | ⟨a0, f, a1, a2, a3 | ⟨a3, a4⟩⟩)
          · exact Or.inl h
          · have hf := (hA1.2.2 _ _ _ a1).2.1
            exact Or.inr ⟨a0, f, a1, a2, by omega⟩
          · omega
  have h2 : ∃ r, lp (b_A_append_33 j i (nI n0)) (0, r1.2) = some r ∧ ((∃ E, CP r.2 j (n0 + n1) (apG n0 g0 g1) E ∧ apS n0 e0 e1 2 0 E) ∧ Frm (uA j) M r.2) := by
    refine lp_for 2 (fun k s => s.1 = nI k ∧ (∃ E, CP s.2 j (n0 + n1) (apG n0 g0 g1) E ∧ apS n0 e0 e1 k 0 E) ∧ Frm (uA j) M s.2) _ (fun k s hk h => ?_) (fun s h => ?_) (k := 0) ⟨rfl, ⟨e0, hr1, fun l' p q => ?_⟩, hF1⟩ (by omega) (by omega)
    · obtain ⟨i0, B⟩ := s
      obtain ⟨rfl, h2, h3⟩ := h
      obtain ⟨r, a1, a2, a3⟩ := inner k hk B h2 h3
      refine Or.inl ⟨(nI k + 1, r.2), ?_, nI_inc k, a2, a3⟩
      unfold b_A_append_33
      show (if (2 : Int32) ≤ nI k then _ else _) = _
      rw [if_lt (x := 2) (B := 2) hk (by omega) rfl]
      show bd (lp (b_A_append_41 j i (nI n0) (nI k)) (0, B)) _ = _
      rw [a1, bd_some]
    · obtain ⟨i0, B⟩ := s
      obtain ⟨rfl, h2, h3⟩ := h
      refine ⟨(nI 2, B), ?_, h2, h3⟩
      unfold b_A_append_33
      show (if (2 : Int32) ≤ nI 2 then _ else _) = _
      rw [if_ge (x := 2) (B := 2) (Nat.le_refl _) (by omega) rfl]
    · constructor
      · intro h; exact Or.inl h
      · rintro (h | ⟨-, f, -, -, h | ⟨-, h⟩⟩)
        · exact h
        · omega
        · omega
  obtain ⟨r2, h3, ⟨E, h4, h5⟩, h6⟩ := h2
  refine ⟨r2.2, ?_, CP_ext h4 (fun _ _ => rfl) (fun l p q => ?_), h6⟩
  · unfold m_A_append
    rw [h1, bd_some, hC0.1, h3, bd_some]
  · rw [Bool.eq_iff_iff, h5 l p q]
    simp only [apE, Bool.or_eq_true, Bool.and_eq_true, decide_eq_true_eq]
    constructor
    · rintro (h | ⟨a0, f, a1, a2 | ⟨a2, rfl⟩, -⟩)
      · exact Or.inl h
      · subst a2
        exact Or.inr ⟨a0, Or.inl ⟨by omega, by rw [show n0 + f - n0 = f by omega]; exact a1⟩⟩
      · exact Or.inr ⟨a0, Or.inr ⟨a2, a1⟩⟩
    · rintro (h | ⟨a0, ⟨a1, a2⟩ | ⟨a1, a2⟩⟩)
      · exact Or.inl h
      · exact Or.inr ⟨a0, p - n0, a2, Or.inl (by omega), Or.inl (hA1.2.2 _ _ _ a2).1⟩
      · exact Or.inr ⟨a0, 0, a2, Or.inr ⟨a1, rfl⟩, Or.inl (hA1.2.2 _ _ _ a2).1⟩
theorem uC_self (M : Mm) (i j : Nat) : (uC M i j).1 (1, j) = va_cpy (M.1 (1, i)) (M.1 (1, j)) 0 0 32 := if_pos rfl
theorem uC_ne (M : Mm) (i j : Nat) {c : Nat × Nat} (h : c ≠ (1, j)) : (uC M i j).1 c = M.1 c := if_neg h
theorem copy_eq {M : Mm} {j n : Nat} {g : Nat → Bool} {e : Ed} (hj : j < 6) (hC : CP M j n g e) : ∃ M', m_A_copy 6 j M = some M' ∧ CP M' 6 n g e ∧ Frm (uA 6) M M' := by
  unfold m_A_copy
  rw [bd_some, bd_some, bd_some]
  have hne : ((0, j) : Nat × Nat) ≠ (0, 6) := by intro h; cases h; omega
  have hne1 : ((1, j) : Nat × Nat) ≠ (0, 6) := by intro h; cases h
  have hne2 : ((0, 6) : Nat × Nat) ≠ (1, 6) := by intro h; cases h
  refine ⟨_, rfl, ⟨?_, fun q hq => ?_, fun l hl t ht q hq => ?_⟩, ⟨fun c hc => ?_, rfl⟩⟩
  · rw [uC_ne _ _ _ hne2, uI_off _ _ _ (by omega), uI_at]
    exact hC.1
  · rw [uC_ne _ _ _ hne2, uI_at, uI_ne _ _ _ hne]
    exact hC.2.1 q hq
  · rw [uC_self, pk_cpy_in (by omega) (by omega), uI_ne _ _ _ hne1, uI_ne _ _ _ hne1, show 0 + (16 * l + t - 0) = 16 * l + t by omega]
    exact hC.2.2 l hl t ht q hq
  · rw [uC_ne _ _ _ (fun h => hc (Or.inr h)), uI_ne _ _ _ (fun h => hc (Or.inl h)), uI_ne _ _ _ (fun h => hc (Or.inl h))]
