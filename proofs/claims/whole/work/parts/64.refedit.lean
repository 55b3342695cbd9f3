/-! the reference's edits -/
def RF (a : Nat) (M M' : Mm) : Prop := (∀ c, c ≠ (1, 16) → c ≠ (1, 17) → c ≠ (1, 18) → M'.1 c = M.1 c) ∧ M'.2 = M.2 ∧ (∀ i, i ≠ a → M'.1 (1, 18) i = M.1 (1, 18) i) ∧ (∀ i, i ≠ a → M'.1 (1, 17) i = M.1 (1, 17) i) ∧ ∀ i, ¬ (8 * a ≤ i ∧ i < 8 * a + 8) → M'.1 (1, 16) i = M.1 (1, 16) i
theorem RF.rfl {a : Nat} {M : Mm} : RF a M M := ⟨fun _ _ _ _ => Eq.refl _, Eq.refl _, fun _ _ => Eq.refl _, fun _ _ => Eq.refl _, fun _ _ => Eq.refl _⟩
theorem RF.trans {a : Nat} {A B C : Mm} (h1 : RF a A B) (h2 : RF a B C) : RF a A C := ⟨fun c p q r => (h2.1 c p q r).trans (h1.1 c p q r), h2.2.1.trans h1.2.1, fun i hi => (h2.2.2.1 i hi).trans (h1.2.2.1 i hi), fun i hi => (h2.2.2.2.1 i hi).trans (h1.2.2.2.1 i hi), fun i hi => (h2.2.2.2.2 i hi).trans (h1.2.2.2.2 i hi)⟩
theorem RF.u16 {a : Nat} (M : Mm) {k : Nat} (v : Int32) (hk : 8 * a ≤ k ∧ k < 8 * a + 8) : RF a M (uI M (1, 16) k v) := by
  refine ⟨fun c h _ _ => uI_ne M _ _ h, Eq.refl _, fun i _ => ?_, fun i _ => ?_, fun i hi => ?_⟩
  · rw [uI_ne M _ _ (by intro h; cases h)]
  · rw [uI_ne M _ _ (by intro h; cases h)]
  · exact uI_off M _ _ (fun h => hi (by rw [h]; exact hk))
theorem RF.u17 {a : Nat} (M : Mm) (v : Int32) : RF a M (uI M (1, 17) a v) := by
  refine ⟨fun c _ h _ => uI_ne M _ _ h, Eq.refl _, fun i _ => ?_, fun i hi => ?_, fun i _ => ?_⟩
  · rw [uI_ne M _ _ (by intro h; cases h)]
  · exact uI_off M _ _ hi
  · rw [uI_ne M _ _ (by intro h; cases h)]
theorem RF.u18 {a : Nat} (M : Mm) (v : Int32) : RF a M (uI M (1, 18) a v) := by
  refine ⟨fun c _ _ h => uI_ne M _ _ h, Eq.refl _, fun i hi => ?_, fun i _ => ?_, fun i _ => ?_⟩
  · exact uI_off M _ _ hi
  · rw [uI_ne M _ _ (by intro h; cases h)]
  · rw [uI_ne M _ _ (by intro h; cases h)]
theorem RP_RF {M M' : Mm} {a b n : Nat} {g : Nat → Bool} {e : Ed} (h : RP M b n g e) (hF : RF a M M') (hab : b ≠ a) (hn : n ≤ 4) : RP M' b n g e := by
  refine ⟨?_, fun q hq => ?_, fun l hl s hs q hq => ?_⟩
  · rw [hF.2.2.1 b hab]; exact h.1
  · rw [hF.2.2.2.1 b hab]; exact h.2.1 q hq
  · rw [hF.2.2.2.2 _ (by omega)]; exact h.2.2 l hl s hs q hq
theorem n17_16 : ((1, 17) : Nat × Nat) ≠ (1, 16) := by intro h; cases h
theorem n18_16 : ((1, 18) : Nat × Nat) ≠ (1, 16) := by intro h; cases h
theorem n16_17 : ((1, 16) : Nat × Nat) ≠ (1, 17) := by intro h; cases h
theorem n18_17 : ((1, 18) : Nat × Nat) ≠ (1, 17) := by intro h; cases h
theorem n16_18 : ((1, 16) : Nat × Nat) ≠ (1, 18) := by intro h; cases h
theorem n17_18 : ((1, 17) : Nat × Nat) ≠ (1, 18) := by intro h; cases h
theorem b_not (x : Int32) {i : Nat} (hi : i < 32) : bt (x ^^^ (-1)) i = !bt x i := by rw [b_xor, b_m1 i hi]; simp
theorem add_eq {M : Mm} {a n : Nat} {g : Nat → Bool} {e : Ed} (hR : RP M a n g e) (ha : a < 6) (hn : n < 4) (hg : g n = false) (he : ∀ l q, e l n q = false) (b : Bool) : ∃ M', m_M_add (nI a) b M = some M' ∧ RP M' a (n + 1) (addG g n b) e ∧ RF a M M' := by
  unfold m_M_add
  rw [ck_of (sz_in ha), nI_clamp (show a < 2 ^ 31 by omega), hR.1, ix0, ck_of (ix_in (by omega)), nI_clamp (show 8 * a + n < 2 ^ 31 by omega), bd_some, uI_ne _ _ _ n18_16, hR.1, ix1, ck_of (ix_in (by omega)), nI_clamp (show 8 * a + 4 + n < 2 ^ 31 by omega), bd_some, uI_ne _ _ _ n17_16, uI_ne _ _ _ n17_16, uI_ne _ _ _ n18_16, uI_ne _ _ _ n18_16, hR.1, ck_of (gd_in ha)]
  have rows : ∀ (A : Mm) (v w : Int32), RP (uI (uI (uI (uI M (1, 16) (8 * a + n) 0) (1, 16) (8 * a + 4 + n) 0) (1, 17) a v) (1, 18) a w) a (n + 1) (addG g n b) e ↔ w = nI (n + 1) ∧ ∀ q, q < n + 1 → bt v q = addG g n b q := fun A v w => by
    constructor
    · intro h
      refine ⟨?_, fun q hq => ?_⟩
      · have := h.1; rw [uI_at] at this; exact this
      · have := h.2.1 q hq; rw [uI_ne _ _ _ n17_18, uI_at] at this; exact this
    · rintro ⟨h1, h2⟩
      refine ⟨by rw [uI_at]; exact h1, fun q hq => by rw [uI_ne _ _ _ n17_18, uI_at]; exact h2 q hq, fun l hl s hs q hq => ?_⟩
      rw [uI_ne _ _ _ n16_18, uI_ne _ _ _ n16_17]
      by_cases es : s = n
      · subst es
        rw [he l q]
        by_cases el : l = 0
        · subst el
          rw [uI_off _ _ _ (by omega), show 8 * a + 4 * 0 + s = 8 * a + s by omega, uI_at, b_0]
        · have : l = 1 := by omega
          subst this
          rw [show 8 * a + 4 * 1 + s = 8 * a + 4 + s by omega, uI_at, b_0]
      · rw [uI_off _ _ _ (by omega), uI_off _ _ _ (by omega)]
        exact hR.2.2 l hl s (by omega) q hq
  have frame : ∀ (v w : Int32), RF a M (uI (uI (uI (uI M (1, 16) (8 * a + n) 0) (1, 16) (8 * a + 4 + n) 0) (1, 17) a v) (1, 18) a w) := fun v w => (((RF.u16 M 0 (by omega)).trans (RF.u16 _ 0 (by omega))).trans (RF.u17 _ v)).trans (RF.u18 _ w)
  cases b with
  | false =>
    rw [if_pos (show bI false = 0 from rfl), bd_some, ck_of (sz_in ha), uI_ne _ _ _ n18_17, uI_ne _ _ _ n18_16, uI_ne _ _ _ n18_16, hR.1, bd_some]
    simp only [ck_of (sz_in ha), ck_of (gd_in ha)]
    refine ⟨_, rfl, (rows M _ _).mpr ⟨nI_inc n, fun q hq => ?_⟩, frame _ _⟩
    rw [b_and, b_not _ (by omega), b_bit (by omega)]
    by_cases eq : q = n
    · subst eq; simp [addG, hg]
    · simp [addG, eq, hR.2.1 q (by omega)]
  | true =>
    rw [if_neg (by decide), bd_some, ck_of (sz_in ha), uI_ne _ _ _ n18_17, uI_ne _ _ _ n18_16, uI_ne _ _ _ n18_16, hR.1, bd_some]
    simp only [ck_of (sz_in ha), ck_of (gd_in ha)]
    refine ⟨_, rfl, (rows M _ _).mpr ⟨nI_inc n, fun q hq => ?_⟩, frame _ _⟩
    rw [b_or, b_bit (by omega)]
    by_cases eq : q = n
    · subst eq; simp [addG]
    · simp [addG, eq, hR.2.1 q (by omega)]
def setRow (e : Ed) (l s : Nat) (x : Nat → Bool) : Ed := fun l' p q => if l' = l ∧ p = s then x q else e l' p q
theorem RP_row {M : Mm} {a n : Nat} {g : Nat → Bool} {e : Ed} (hR : RP M a n g e) (hn : n ≤ 4) {l s : Nat} (hl : l < 2) (hs : s < n) (v : Int32) : RP (uI M (1, 16) (8 * a + 4 * l + s) v) a n g (setRow e l s (bt v)) := by
  refine ⟨by rw [uI_ne _ _ _ n18_16]; exact hR.1, fun q hq => by rw [uI_ne _ _ _ n17_16]; exact hR.2.1 q hq, fun l' hl' s' hs' q hq => ?_⟩
  unfold setRow
  by_cases h : l' = l ∧ s' = s
  · obtain ⟨rfl, rfl⟩ := h
    rw [if_pos ⟨rfl, rfl⟩, uI_at]
  · rw [if_neg h, uI_off _ _ _ (by omega)]
    exact hR.2.2 l' hl' s' hs' q hq
theorem RP_ext {M : Mm} {a n : Nat} {g g' : Nat → Bool} {e e' : Ed} (h : RP M a n g e) (hg : ∀ q, q < n → g q = g' q) (he : ∀ l p q, q < 32 → p < n → l < 2 → e l p q = e' l p q) : RP M a n g' e' := ⟨h.1, fun q hq => by rw [h.2.1 q hq, hg q hq], fun l hl s hs q hq => by rw [h.2.2 l hl s hs q hq, he l s q hq hs hl]⟩
/-- the sources below k -/
def apR (n0 : Nat) (e0 e1 : Ed) (k : Nat) (E : Ed) : Prop := ∀ l' p q, E l' p q = true ↔ e0 l' p q = true ∨ (n0 ≤ q ∧ ∃ f, e1 l' f (q - n0) = true ∧ (p = n0 + f ∨ (p = 0 ∧ f = 0)) ∧ f < k)
theorem append_row {A : Mm} {i j n0 n1 k : Nat} {G g1 : Nat → Bool} {E e1 : Ed} (hi : i < 6) (hj : j < 6) (hij : i ≠ j) (h0 : 0 < n0) (hk : k < n1) (hn : n0 + n1 ≤ 4) (hR : RP A j (n0 + k + 1) G E) (hR1 : RP A i n1 g1 e1) (hE : ∀ l q, E l (n0 + k) q = false) : ∃ r, lp (b_M_append_49 (nI i) (nI j) (nI n0) (nI k)) (0, A) = some r ∧ ((∃ E', RP r.2 j (n0 + k + 1) G E' ∧ ∀ l' p q, l' < 2 → q < 32 → (E' l' p q = true ↔ E l' p q = true ∨ (n0 ≤ q ∧ e1 l' k (q - n0) = true ∧ (p = n0 + k ∨ (p = 0 ∧ k = 0))))) ∧ RF j A r.2) := by
  refine lp_for 2 (fun l s => s.1 = nI l ∧ (∃ E', RP s.2 j (n0 + k + 1) G E' ∧ ∀ l' p q, l' < 2 → q < 32 → (E' l' p q = true ↔ E l' p q = true ∨ (l' < l ∧ n0 ≤ q ∧ e1 l' k (q - n0) = true ∧ (p = n0 + k ∨ (p = 0 ∧ k = 0))))) ∧ RF j A s.2) _ (fun l s hl h => ?_) (fun s h => ?_) (k := 0) ⟨rfl, ⟨E, hR, fun l' p q _ _ => ⟨fun h => Or.inl h, fun h => by rcases h with h | ⟨h, -⟩; exact h; omega⟩⟩, RF.rfl⟩ (by omega) (by omega)
  · obtain ⟨i0, B⟩ := s
    obtain ⟨rfl, ⟨E', h2, h4⟩, h3⟩ := h
    have h2 : RP B j (n0 + k + 1) G E' := h2
    have hBi : RP B i n1 g1 e1 := RP_RF hR1 h3 hij (by omega)
    unfold b_M_append_49
    show (∃ s', (if (2 : Int32) ≤ nI l then _ else _) = _ ∧ _) ∨ (∃ r, (if (2 : Int32) ≤ nI l then _ else _) = _ ∧ _)
    rw [if_lt (x := 2) (B := 2) hl (by omega) rfl]
    show (∃ s', ck (inb (((8 : Int32) * nI i + (4 : Int32) * nI l) + nI k) (lenI 16)) _ = _ ∧ _) ∨ _
    rw [to_ix, ck_of (to_in hi hl (by omega)), bd_some]
    show (∃ s', ck (inb ((((8 : Int32) * nI j + (4 : Int32) * nI l) + nI n0) + nI k) (lenI 16)) _ = _ ∧ _) ∨ _
    rw [to_ix j l n0, nI_add, show 8 * j + 4 * l + n0 + k = 8 * j + 4 * l + (n0 + k) by omega, ck_of (to_in hj hl (by omega)), bd_some, nI_clamp (by omega), nI_clamp (by omega)]
    have hx : ∀ q, q < 32 → (bt (B.1 (1, 16) (8 * i + 4 * l + k) <<< (nI n0 &&& 31)) q = true ↔ n0 ≤ q ∧ e1 l k (q - n0) = true) := fun q hq => by
      rw [b_shl n0 (by omega) _ hq, Bool.and_eq_true, decide_eq_true_eq, hBi.2.2 l hl k hk _ (by omega)]
    have c2 := RP_row h2 (by omega) hl (s := n0 + k) (by omega) (B.1 (1, 16) (8 * i + 4 * l + k) <<< (nI n0 &&& 31))
    have hF := RF.u16 (a := j) B (k := 8 * j + 4 * l + (n0 + k)) (B.1 (1, 16) (8 * i + 4 * l + k) <<< (nI n0 &&& 31)) (by omega)
    have hz : ∀ q, q < 32 → ¬ E' l (n0 + k) q = true := fun q hq h => by
      rcases (h4 l _ q hl hq).mp h with h | ⟨h, -⟩
      · rw [hE] at h; cases h
      · omega
    by_cases hk0 : k = 0
    · subst hk0
      have hz0 : (8 : Int32) * nI j + (4 : Int32) * nI l = nI (8 * j + 4 * l) := by rw [i8, i4, nI_add]
      rw [if_pos nI_0, hz0, ck_of (ix_in (by omega)), ck_of (ix_in (by omega)), bd_some, nI_clamp (by omega)]
      have hold : (uI B (1, 16) (8 * j + 4 * l + (n0 + 0)) (B.1 (1, 16) (8 * i + 4 * l + 0) <<< (nI n0 &&& 31))).1 (1, 16) (8 * j + 4 * l) = B.1 (1, 16) (8 * j + 4 * l) := uI_off _ _ _ (by omega)
      show (∃ s', some (Sum.inl (_, uI (uI B (1, 16) (8 * j + 4 * l + (n0 + 0)) (B.1 (1, 16) (8 * i + 4 * l + 0) <<< (nI n0 &&& 31))) (1, 16) (8 * j + 4 * l) ((uI B (1, 16) (8 * j + 4 * l + (n0 + 0)) (B.1 (1, 16) (8 * i + 4 * l + 0) <<< (nI n0 &&& 31))).1 (1, 16) (8 * j + 4 * l) ||| _))) = _ ∧ _) ∨ _
      rw [hold]
      have d2 := RP_row c2 (by omega) hl (s := 0) (by omega) (B.1 (1, 16) (8 * j + 4 * l) ||| (B.1 (1, 16) (8 * i + 4 * l + 0) <<< (nI n0 &&& 31)))
      have d3 := RF.u16 (a := j) (uI B (1, 16) (8 * j + 4 * l + (n0 + 0)) (B.1 (1, 16) (8 * i + 4 * l + 0) <<< (nI n0 &&& 31))) (k := 8 * j + 4 * l) (B.1 (1, 16) (8 * j + 4 * l) ||| (B.1 (1, 16) (8 * i + 4 * l + 0) <<< (nI n0 &&& 31))) (by omega)
      refine Or.inl ⟨_, rfl, nI_inc l, ⟨_, d2, fun l' p q hl' hq => ?_⟩, (h3.trans hF).trans d3⟩
      have hrow0 := h2.2.2 l hl 0 (by omega) q hq
      rw [show 8 * j + 4 * l + 0 = 8 * j + 4 * l by omega] at hrow0
      unfold setRow
      by_cases hp0 : l' = l ∧ p = 0
      · obtain ⟨rfl, rfl⟩ := hp0
        rw [if_pos ⟨rfl, rfl⟩, b_or, Bool.or_eq_true, hx q hq, hrow0, h4 l' 0 q hl hq]
        constructor
        · rintro ((h | h) | ⟨a1, a2⟩)
          · exact Or.inl h
          · omega
          · exact Or.inr ⟨by omega, a1, a2, Or.inr ⟨rfl, rfl⟩⟩
        · rintro (h | ⟨-, a1, a2, -⟩)
          · exact Or.inl (Or.inl h)
          · exact Or.inr ⟨a1, a2⟩
      · rw [if_neg hp0]
        by_cases hpn : l' = l ∧ p = n0 + 0
        · obtain ⟨rfl, rfl⟩ := hpn
          rw [if_pos ⟨rfl, rfl⟩, hx q hq]
          constructor
          · rintro ⟨a1, a2⟩
            exact Or.inr ⟨by omega, a1, a2, Or.inl rfl⟩
          · rintro (h | ⟨-, a1, a2, -⟩)
            · exact absurd h (by rw [show E l' p q = E l' (p + 0) q from rfl, hE]; simp)
            · exact ⟨a1, a2⟩
        · rw [if_neg hpn, h4 l' p q hl' hq]
          constructor
          · rintro (h | ⟨a0, a1, a2, a3⟩)
            · exact Or.inl h
            · exact Or.inr ⟨by omega, a1, a2, a3⟩
          · rintro (h | ⟨a0, a1, a2, a3⟩)
            · exact Or.inl h
            · have : l' ≠ l := by
                rintro rfl
                rcases a3 with a3 | ⟨a3, -⟩
                · exact hpn ⟨rfl, a3⟩
                · exact hp0 ⟨rfl, a3⟩
              exact Or.inr ⟨by omega, a1, a2, a3⟩
    · rw [if_neg (nI_ne0 (by omega) (by omega))]
      refine Or.inl ⟨_, rfl, nI_inc l, ⟨_, c2, fun l' p q hl' hq => ?_⟩, h3.trans hF⟩
      unfold setRow
      by_cases hpn : l' = l ∧ p = n0 + k
      · obtain ⟨rfl, rfl⟩ := hpn
        rw [if_pos ⟨rfl, rfl⟩, hx q hq]
        constructor
        · rintro ⟨a1, a2⟩
          exact Or.inr ⟨by omega, a1, a2, Or.inl rfl⟩
        · rintro (h | ⟨-, a1, a2, -⟩)
          · rw [hE] at h; cases h
          · exact ⟨a1, a2⟩
      · rw [if_neg hpn, h4 l' p q hl' hq]
        constructor
        · rintro (h | ⟨a0, a1, a2, a3⟩)
          · exact Or.inl h
          · exact Or.inr ⟨by omega, a1, a2, a3⟩
        · rintro (h | ⟨a0, a1, a2, a3⟩)
          · exact Or.inl h
          · have : l' ≠ l := by
              rintro rfl
              rcases a3 with a3 | ⟨-, a3⟩
              · exact hpn ⟨rfl, a3⟩
              · exact hk0 a3
            exact Or.inr ⟨by omega, a1, a2, a3⟩
  · obtain ⟨i0, B⟩ := s
    obtain ⟨rfl, ⟨E', h2, h4⟩, h3⟩ := h
    refine ⟨(nI 2, B), ?_, ⟨E', h2, fun l' p q hl' hq => ?_⟩, h3⟩
    · unfold b_M_append_49
      show (if (2 : Int32) ≤ nI 2 then _ else _) = _
      rw [if_ge (x := 2) (B := 2) (Nat.le_refl _) (by omega) rfl]
    · rw [h4 l' p q hl' hq]
      constructor
      · rintro (h | ⟨-, h⟩)
        · exact Or.inl h
        · exact Or.inr h
      · rintro (h | h)
        · exact Or.inl h
        · exact Or.inr ⟨hl', h⟩
