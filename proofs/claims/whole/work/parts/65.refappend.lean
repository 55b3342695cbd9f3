/-! the reference's append and trim -/
noncomputable def dB (P : Prop) : Bool := @decide P (Classical.propDecidable P)
theorem dB_iff {P : Prop} : dB P = true ↔ P := by
  unfold dB
  exact @decide_eq_true_iff P (Classical.propDecidable P)
theorem addG_ap {n0 k : Nat} {g0 g1 : Nat → Bool} (q : Nat) : addG (fun q => g0 q || (decide (n0 ≤ q) && (decide (q < n0 + k) && g1 (q - n0)))) (n0 + k) (g1 k) q = (g0 q || (decide (n0 ≤ q) && (decide (q < n0 + (k + 1)) && g1 (q - n0)))) := by
  simp only [addG]
  by_cases e1 : q = n0 + k
  · subst e1
    rw [show n0 + k - n0 = k by omega]
    simp [show n0 + k < n0 + (k + 1) by omega]
  · by_cases e2 : q < n0 + k
    · simp [e1, e2, show q < n0 + (k + 1) by omega]
    · simp [e1, e2, show ¬ q < n0 + (k + 1) by omega]
theorem appendM_eq {M : Mm} {i j n0 n1 : Nat} {g0 g1 : Nat → Bool} {e0 e1 : Ed} (hi : i < 6) (hj : j < 6) (hij : i ≠ j) (h0 : 0 < n0) (hR0 : RP M j n0 g0 e0) (hA0 : AOK n0 g0 e0) (hR1 : RP M i n1 g1 e1) (hA1 : AOK n1 g1 e1) (hn : n0 + n1 ≤ 4) : ∃ M', m_M_append (nI i) (nI j) M = some M' ∧ RP M' j (n0 + n1) (apG n0 g0 g1) (apE n0 e0 e1) ∧ RF j M M' := by
  have h1 : ∃ r, lp (b_M_append_10 (nI i) (nI j) (nI n0)) (0, M) = some r ∧ (RP r.2 j (n0 + n1) (apG n0 g0 g1) (apE n0 e0 e1) ∧ RF j M r.2) := by
    refine lp_for n1 (fun k s => s.1 = nI k ∧ (∃ E, RP s.2 j (n0 + k) (fun q => g0 q || (decide (n0 ≤ q) && (decide (q < n0 + k) && g1 (q - n0)))) E ∧ apR n0 e0 e1 k E) ∧ RF j M s.2) _ (fun k s hk h => ?_) (fun s h => ?_) (k := 0) ⟨rfl, ⟨e0, RP_ext hR0 (fun q hq => ?_) (fun _ _ _ _ _ _ => rfl), fun l' p q => ⟨fun h => Or.inl h, fun h => ?_⟩⟩, RF.rfl⟩ (by omega) (by omega)
    · obtain ⟨i0, A⟩ := s
      obtain ⟨rfl, ⟨E, h2, h4⟩, h3⟩ := h
      have h2 : RP A j (n0 + k) (fun q => g0 q || (decide (n0 ≤ q) && (decide (q < n0 + k) && g1 (q - n0)))) E := h2
      have hAi : RP A i n1 g1 e1 := RP_RF hR1 h3 hij hA1.1
      have hE0 : ∀ l q, E l (n0 + k) q = false := fun l q => by
        cases hb : E l (n0 + k) q
        · rfl
        · rcases (h4 l _ q).mp hb with h | ⟨-, f, -, b2 | ⟨b2, -⟩, b3⟩
          · have := (hA0.2.2 _ _ _ h).2.1; omega
          · omega
          · omega
      have hG0 : (fun q => g0 q || (decide (n0 ≤ q) && (decide (q < n0 + k) && g1 (q - n0)))) (n0 + k) = false := by
        have : g0 (n0 + k) = false := by
          cases hb : g0 (n0 + k)
          · rfl
          · have := hA0.2.1 _ hb; omega
        simp [this]
      obtain ⟨B, b1, b2, b3⟩ := add_eq h2 hj (by omega) hG0 hE0 (g1 k)
      obtain ⟨r, c1, ⟨E', c2, c3⟩, c4⟩ := append_row hi hj hij h0 hk hn b2 (RP_RF hAi b3 hij hA1.1) hE0
      have goal : (∃ E, RP r.2 j (n0 + (k + 1)) (fun q => g0 q || (decide (n0 ≤ q) && (decide (q < n0 + (k + 1)) && g1 (q - n0)))) E ∧ apR n0 e0 e1 (k + 1) E) ∧ RF j M r.2 := by
        refine ⟨⟨fun l' p q => dB (e0 l' p q = true ∨ (n0 ≤ q ∧ ∃ f, e1 l' f (q - n0) = true ∧ (p = n0 + f ∨ (p = 0 ∧ f = 0)) ∧ f < k + 1)), RP_ext c2 (fun q hq => addG_ap q) (fun l' p q hq hp hl' => ?_), fun l' p q => dB_iff⟩, (h3.trans b3).trans c4⟩
        rw [Bool.eq_iff_iff, c3 l' p q hl' hq, h4 l' p q, dB_iff]
        constructor
        · rintro ((h | ⟨a0, f, a1, a2, a3⟩) | ⟨a0, a1, a2⟩)
          · exact Or.inl h
          · exact Or.inr ⟨a0, f, a1, a2, by omega⟩
          · exact Or.inr ⟨a0, k, a1, a2, by omega⟩
        · rintro (h | ⟨a0, f, a1, a2, a3⟩)
          · exact Or.inl (Or.inl h)
          · by_cases ef : f = k
            · subst ef; exact Or.inr ⟨a0, a1, a2⟩
            · exact Or.inl (Or.inr ⟨a0, f, a1, a2, by omega⟩)
      unfold b_M_append_10
      rw [ck_of (sz_in hi), nI_clamp (show i < 2 ^ 31 by omega)]
      show (∃ s', (if A.1 (1, 18) i ≤ nI k then _ else _) = _ ∧ _) ∨ (∃ r, (if A.1 (1, 18) i ≤ nI k then _ else _) = _ ∧ _)
      rw [if_lt hk (by omega) hAi.1, ck_of (gd_in hi)]
      have hgk := hAi.2.1 k hk
      cases hg : g1 k
      · rw [hg] at b1 hgk
        rw [if_neg (by rw [b_tst1 _ (by omega)]; show ¬ bt (A.1 (1, 17) i) k = true; rw [hgk]; simp)]
        show (∃ s', bd (m_M_add (nI j) false A) _ = _ ∧ _) ∨ _
        rw [b1, bd_some]
        show (∃ s', bd (lp (b_M_append_49 (nI i) (nI j) (nI n0) (nI k)) (0, B)) _ = _ ∧ _) ∨ _
        rw [c1, bd_some]
        exact Or.inl ⟨(nI k + 1, r.2), rfl, nI_inc k, goal⟩
      · rw [hg] at b1 hgk
        rw [if_pos (by rw [b_tst1 _ (by omega)]; exact hgk)]
        show (∃ s', bd (m_M_add (nI j) true A) _ = _ ∧ _) ∨ _
        rw [b1, bd_some]
        show (∃ s', bd (lp (b_M_append_49 (nI i) (nI j) (nI n0) (nI k)) (0, B)) _ = _ ∧ _) ∨ _
        rw [c1, bd_some]
        exact Or.inl ⟨(nI k + 1, r.2), rfl, nI_inc k, goal⟩
    · obtain ⟨i0, A⟩ := s
      obtain ⟨rfl, ⟨E, h2, h4⟩, h3⟩ := h
      have hAi : RP A i n1 g1 e1 := RP_RF hR1 h3 hij hA1.1
      refine ⟨(nI n1, A), ?_, RP_ext h2 (fun q hq => ?_) (fun l p q _ _ _ => ?_), h3⟩
      · unfold b_M_append_10
        rw [ck_of (sz_in hi), nI_clamp (show i < 2 ^ 31 by omega)]
        show (if A.1 (1, 18) i ≤ nI n1 then _ else _) = _
        rw [if_ge (Nat.le_refl _) (by omega) hAi.1]
      · simp only [apG]
        simp [hq]
      · rw [Bool.eq_iff_iff, h4 l p q]
        simp only [apE, Bool.or_eq_true, Bool.and_eq_true, decide_eq_true_eq]
        constructor
        · rintro (h | ⟨a0, f, a1, a2 | ⟨a2, rfl⟩, -⟩)
          · exact Or.inl h
          · subst a2
            exact Or.inr ⟨a0, Or.inl ⟨by omega, by rw [show n0 + f - n0 = f by omega]; exact a1⟩⟩
          · exact Or.inr ⟨a0, Or.inr ⟨a2, a1⟩⟩
        · rintro (h | ⟨a0, ⟨a1, a2⟩ | ⟨a1, a2⟩⟩)
          · exact Or.inl h
          · exact Or.inr ⟨a0, p - n0, a2, Or.inl (by omega), (hA1.2.2 _ _ _ a2).2.1⟩
          · exact Or.inr ⟨a0, 0, a2, Or.inr ⟨a1, rfl⟩, (hA1.2.2 _ _ _ a2).2.1⟩
    · have : ¬ n0 ≤ q := by omega
      simp [this]
    · rcases h with h | ⟨-, f, -, -, h⟩
      · exact h
      · omega
  obtain ⟨r, h2, h3, h4⟩ := h1
  refine ⟨r.2, ?_, h3, h4⟩
  unfold m_M_append
  rw [ck_of (sz_in hj), nI_clamp (show j < 2 ^ 31 by omega), hR0.1, h2, bd_some]
/-! trim -/
theorem trim99 : ∀ K, K < 16 → ∀ s, s < 16 → lp (b_M_trim_99 (nI K) (nI s)) (0, 0, 0) = some (nI (pkN (s &&& K) K), nI (cnt K 4), nI 4) := by decide +kernel
theorem cnt_onto (K : Nat) : ∀ (n x : Nat), x < cnt K n → ∃ p, p < n ∧ K.testBit p = true ∧ cnt K p = x
  | 0, x, h => by simp [cnt] at h
  | n + 1, x, h => by
    rw [cnt_succ] at h
    by_cases hx : x < cnt K n
    · obtain ⟨p, a1, a2⟩ := cnt_onto K n x hx
      exact ⟨p, by omega, a2⟩
    · by_cases hb : K.testBit n = true
      · rw [if_pos hb] at h
        exact ⟨n, by omega, hb, by omega⟩
      · rw [if_neg hb] at h; omega
/-- one row for each letter: packed, and put at its place -/
theorem trim_rows {A : Mm} {a i c K : Nat} {e : Ed} (ha : a < 6) (hK : K < 16) (hi : i < 4) (hc : c ≤ i) (he : ∀ l p q, e l p q = true → q < 4) (hrow : ∀ l, l < 2 → ∀ q, q < 32 → bt (A.1 (1, 16) (8 * a + 4 * l + i)) q = e l i q) : ∃ r, lp (b_M_trim_65 (nI a) (nI K) (nI c) (nI i)) (0, A) = some r ∧ ((∀ l, l < 2 → ∀ y, y < 32 → (bt (r.2.1 (1, 16) (8 * a + 4 * l + c)) y = true ↔ ∃ q, K.testBit q = true ∧ cnt K q = y ∧ e l i q = true)) ∧ (∀ l, l < 2 → ∀ p, p < 4 → p ≠ c → r.2.1 (1, 16) (8 * a + 4 * l + p) = A.1 (1, 16) (8 * a + 4 * l + p)) ∧ r.2.1 (1, 17) = A.1 (1, 17) ∧ r.2.1 (1, 18) = A.1 (1, 18) ∧ RF a A r.2) := by
  refine lp_for 2 (fun l s => s.1 = nI l ∧ (∀ l', l' < l → ∀ y, y < 32 → (bt (s.2.1 (1, 16) (8 * a + 4 * l' + c)) y = true ↔ ∃ q, K.testBit q = true ∧ cnt K q = y ∧ e l' i q = true)) ∧ (∀ l', l' < 2 → l ≤ l' → ∀ p, p < 4 → s.2.1 (1, 16) (8 * a + 4 * l' + p) = A.1 (1, 16) (8 * a + 4 * l' + p)) ∧ (∀ l', l' < 2 → ∀ p, p < 4 → p ≠ c → s.2.1 (1, 16) (8 * a + 4 * l' + p) = A.1 (1, 16) (8 * a + 4 * l' + p)) ∧ s.2.1 (1, 17) = A.1 (1, 17) ∧ s.2.1 (1, 18) = A.1 (1, 18) ∧ RF a A s.2) _ (fun l s hl h => ?_) (fun s h => ?_) (k := 0) ⟨rfl, fun l' h => by omega, fun _ _ _ _ _ => rfl, fun _ _ _ _ _ => rfl, rfl, rfl, RF.rfl⟩ (by omega) (by omega)
  · obtain ⟨i0, B⟩ := s
    obtain ⟨rfl, h2, h3, h4, h5, h6, h7⟩ := h
    have h2 : ∀ l', l' < l → ∀ y, y < 32 → (bt (B.1 (1, 16) (8 * a + 4 * l' + c)) y = true ↔ ∃ q, K.testBit q = true ∧ cnt K q = y ∧ e l' i q = true) := h2
    have hrl : B.1 (1, 16) (8 * a + 4 * l + i) = A.1 (1, 16) (8 * a + 4 * l + i) := h3 l hl (Nat.le_refl l) i hi
    obtain ⟨s, hs, hsv⟩ := low4 (x := A.1 (1, 16) (8 * a + 4 * l + i)) (fun q hq h => by rw [hrow l hl q hq] at h; exact he _ _ _ h)
    have hpl := pkN_lt K hK (s &&& K) (Nat.lt_of_le_of_lt Nat.and_le_left hs)
    unfold b_M_trim_65
    show (∃ s', (if (2 : Int32) ≤ nI l then _ else _) = _ ∧ _) ∨ (∃ r, (if (2 : Int32) ≤ nI l then _ else _) = _ ∧ _)
    rw [if_lt (x := 2) (B := 2) hl (by omega) rfl]
    show (∃ s', ck (inb (((8 : Int32) * nI a + (4 : Int32) * nI l) + nI i) (lenI 16)) _ = _ ∧ _) ∨ _
    rw [to_ix, ck_of (to_in ha hl hi), bd_some, nI_clamp (by omega)]
    show (∃ s', bd (lp (b_M_trim_99 (nI K) (B.1 (1, 16) (8 * a + 4 * l + i))) (0, 0, 0)) _ = _ ∧ _) ∨ _
    rw [hrl, hsv, trim99 K hK s hs, bd_some]
    show (∃ s', ck (inb (((8 : Int32) * nI a + (4 : Int32) * nI l) + nI c) (lenI 16)) _ = _ ∧ _) ∨ _
    rw [to_ix, ck_of (to_in ha hl (by omega)), bd_some, nI_clamp (by omega)]
    refine Or.inl ⟨_, rfl, nI_inc l, fun l' hl' y hy => ?_, fun l' hl' hll p hp => ?_, fun l' hl' p hp hpc => ?_, ?_, ?_, h7.trans (RF.u16 B _ (by omega))⟩
    · show bt ((uI B (1, 16) (8 * a + 4 * l + c) (nI (pkN (s &&& K) K))).1 (1, 16) (8 * a + 4 * l' + c)) y = true ↔ _
      by_cases el : l' = l
      · subst el
        rw [uI_at, bt_nI (by omega), pkN_iff hK hs hy]
        constructor
        · rintro ⟨q, a1, a2, a3, a4⟩
          refine ⟨q, a3, a4, ?_⟩
          rw [← hrow l' hl q (by omega), hsv, bt_nI (by omega)]; exact a2
        · rintro ⟨q, a3, a4, a5⟩
          have hq := he _ _ _ a5
          refine ⟨q, hq, ?_, a3, a4⟩
          rw [← bt_nI (by omega), ← hsv, hrow l' hl q (by omega)]; exact a5
      · rw [uI_off _ _ _ (by omega)]
        exact h2 l' (by omega) y hy
    · show (uI B (1, 16) (8 * a + 4 * l + c) _).1 (1, 16) (8 * a + 4 * l' + p) = _
      rw [uI_off _ _ _ (by omega)]
      exact h3 l' hl' (by omega) p hp
    · show (uI B (1, 16) (8 * a + 4 * l + c) _).1 (1, 16) (8 * a + 4 * l' + p) = _
      rw [uI_off _ _ _ (by omega)]
      exact h4 l' hl' p hp hpc
    · show (uI B (1, 16) (8 * a + 4 * l + c) _).1 (1, 17) = _
      rw [uI_ne _ _ _ n17_16]; exact h5
    · show (uI B (1, 16) (8 * a + 4 * l + c) _).1 (1, 18) = _
      rw [uI_ne _ _ _ n18_16]; exact h6
  · obtain ⟨i0, B⟩ := s
    obtain ⟨rfl, h2, h3, h4, h5, h6, h7⟩ := h
    refine ⟨(nI 2, B), ?_, h2, h4, h5, h6, h7⟩
    unfold b_M_trim_65
    show (if (2 : Int32) ≤ nI 2 then _ else _) = _
    rw [if_ge (x := 2) (B := 2) (Nat.le_refl _) (by omega) rfl]
theorem trimM_eq {M : Mm} {a n K : Nat} {g : Nat → Bool} {e : Ed} (ha : a < 6) (hR : RP M a n g e) (hA : AOK n g e) (hK : K < 16) : ∃ r, lp (b_M_trim_41 (nI a) (nI K)) (0, 0, 0, M) = some r ∧ (r.1 = nI (cnt K n) ∧ RF a M r.2.2.2 ∧ RP (uI (uI r.2.2.2 (1, 18) a r.1) (1, 17) a r.2.1) a (cnt K n) (trG K g) (trE K e)) := by
  have hn := hA.1
  have h : ∃ r, lp (b_M_trim_41 (nI a) (nI K)) (0, 0, 0, M) = some r ∧ (r.1 = nI (cnt K n) ∧ (∀ x, x < 32 → (bt r.2.1 x = true ↔ ∃ p, p < n ∧ K.testBit p = true ∧ cnt K p = x ∧ g p = true)) ∧ (∀ l, l < 2 → ∀ p, p < n → K.testBit p = true → ∀ y, y < 32 → (bt (r.2.2.2.1 (1, 16) (8 * a + 4 * l + cnt K p)) y = true ↔ ∃ q, K.testBit q = true ∧ cnt K q = y ∧ e l p q = true)) ∧ RF a M r.2.2.2) := by
    refine lp_for n (fun k s => s.2.2.1 = nI k ∧ s.1 = nI (cnt K k) ∧ (∀ x, x < 32 → (bt s.2.1 x = true ↔ ∃ p, p < k ∧ K.testBit p = true ∧ cnt K p = x ∧ g p = true)) ∧ (∀ l, l < 2 → ∀ p, p < k → K.testBit p = true → ∀ y, y < 32 → (bt (s.2.2.2.1 (1, 16) (8 * a + 4 * l + cnt K p)) y = true ↔ ∃ q, K.testBit q = true ∧ cnt K q = y ∧ e l p q = true)) ∧ (∀ l, l < 2 → ∀ p, p < 4 → k ≤ p → s.2.2.2.1 (1, 16) (8 * a + 4 * l + p) = M.1 (1, 16) (8 * a + 4 * l + p)) ∧ s.2.2.2.1 (1, 17) = M.1 (1, 17) ∧ s.2.2.2.1 (1, 18) = M.1 (1, 18) ∧ RF a M s.2.2.2) _ (fun k s hk h => ?_) (fun s h => ?_) (k := 0) ⟨rfl, rfl, fun x _ => ?_, fun l _ p hp => by omega, fun _ _ _ _ _ => rfl, rfl, rfl, RF.rfl⟩ (by omega) (by omega)
    · obtain ⟨c0, G, i0, A⟩ := s
      obtain ⟨rfl, rfl, h2, h3, h4, h5, h6, h7⟩ := h
      have h2 : ∀ x, x < 32 → (bt G x = true ↔ ∃ p, p < k ∧ K.testBit p = true ∧ cnt K p = x ∧ g p = true) := h2
      have h3 : ∀ l, l < 2 → ∀ p, p < k → K.testBit p = true → ∀ y, y < 32 → (bt (A.1 (1, 16) (8 * a + 4 * l + cnt K p)) y = true ↔ ∃ q, K.testBit q = true ∧ cnt K q = y ∧ e l p q = true) := h3
      have h4 : ∀ l, l < 2 → ∀ p, p < 4 → k ≤ p → A.1 (1, 16) (8 * a + 4 * l + p) = M.1 (1, 16) (8 * a + 4 * l + p) := h4
      have h5 : A.1 (1, 17) = M.1 (1, 17) := h5
      have h6 : A.1 (1, 18) = M.1 (1, 18) := h6
      have hcs := cnt_succ K k
      have hck := cnt_le K k
      unfold b_M_trim_41
      rw [ck_of (sz_in ha), nI_clamp (show a < 2 ^ 31 by omega)]
      show (∃ s', (if A.1 (1, 18) a ≤ nI k then _ else _) = _ ∧ _) ∨ (∃ r, (if A.1 (1, 18) a ≤ nI k then _ else _) = _ ∧ _)
      rw [if_lt hk (by omega) (by rw [h6]; exact hR.1)]
      cases hb : K.testBit k
      · rw [if_neg (by rw [b_tst1 _ (by omega), bt_nI (by omega), hb]; simp)]
        rw [hb] at hcs
        refine Or.inl ⟨(nI (cnt K k), G, nI k + 1, A), rfl, nI_inc k, by rw [hcs]; rfl, fun x hx => ?_, fun l hl p hp hp2 => ?_, fun l hl p hp hkp => h4 l hl p hp (by omega), h5, h6, h7⟩
        · show bt G x = true ↔ _
          rw [h2 x hx]
          constructor
          · rintro ⟨p, a1, a2⟩; exact ⟨p, by omega, a2⟩
          · rintro ⟨p, a1, a2, a3⟩
            by_cases ep : p = k
            · subst ep; rw [hb] at a2; cases a2
            · exact ⟨p, by omega, a2, a3⟩
        · by_cases ep : p = k
          · subst ep; rw [hb] at hp2; cases hp2
          · exact h3 l hl p (by omega) hp2
      · rw [if_pos (by rw [b_tst1 _ (by omega), bt_nI (by omega), hb])]
        rw [hb] at hcs
        obtain ⟨r, r1, r2, r3, r4, r5, r6⟩ := trim_rows (A := A) (a := a) (i := k) (c := cnt K k) (K := K) (e := e) ha hK (by omega) hck (fun l p q h => by have := (hA.2.2 _ _ _ h).2.2; omega) (fun l hl q hq => by rw [h4 l hl k (by omega) (Nat.le_refl k)]; exact hR.2.2 l hl k hk q hq)
        show (∃ s', bd (lp (b_M_trim_65 (nI a) (nI K) (nI (cnt K k)) (nI k)) (0, A)) _ = _ ∧ _) ∨ _
        rw [r1, bd_some, ck_of (gd_in ha), bd_some]
        refine Or.inl ⟨_, rfl, nI_inc k, by rw [hcs]; exact nI_inc _, fun x hx => ?_, fun l hl p hp hp2 y hy => ?_, fun l hl p hp hkp => ?_, r4.trans h5, r5.trans h6, h7.trans r6⟩
        · show bt (G ||| ((((r.2.1 (1, 17) a) >>> (nI k &&& 31)) &&& 1) <<< (nI (cnt K k) &&& 31))) x = true ↔ _
          rw [b_or, Bool.or_eq_true, h2 x hx, b_shl _ (by omega) _ hx, b_one _ (by omega) (by omega), r4, h5, hR.2.1 k hk]
          simp only [Bool.and_eq_true, decide_eq_true_eq]
          constructor
          · rintro (⟨p, a1, a2⟩ | ⟨a1, a2, a3⟩)
            · exact ⟨p, by omega, a2⟩
            · exact ⟨k, by omega, hb, by omega, a3⟩
          · rintro ⟨p, a1, a2, a3, a4⟩
            by_cases ep : p = k
            · subst ep; exact Or.inr ⟨by omega, by omega, a4⟩
            · exact Or.inl ⟨p, by omega, a2, a3, a4⟩
        · show bt (r.2.1 (1, 16) (8 * a + 4 * l + cnt K p)) y = true ↔ _
          by_cases ep : p = k
          · subst ep
            exact r2 l hl y hy
          · have hlt := cnt_lt K (show p < k by omega) hp2
            rw [r3 l hl (cnt K p) (by omega) (by omega)]
            exact h3 l hl p (by omega) hp2 y hy
        · show r.2.1 (1, 16) (8 * a + 4 * l + p) = _
          rw [r3 l hl p hp (by omega)]
          exact h4 l hl p hp (by omega)
    · obtain ⟨c0, G, i0, A⟩ := s
      obtain ⟨rfl, rfl, h2, h3, h4, h5, h6, h7⟩ := h
      have h6 : A.1 (1, 18) = M.1 (1, 18) := h6
      refine ⟨(nI (cnt K n), G, nI n, A), ?_, rfl, h2, h3, h7⟩
      unfold b_M_trim_41
      rw [ck_of (sz_in ha), nI_clamp (show a < 2 ^ 31 by omega)]
      show (if A.1 (1, 18) a ≤ nI n then _ else _) = _
      rw [if_ge (Nat.le_refl _) (by omega) (by rw [h6]; exact hR.1)]
    · show bt 0 x = true ↔ _
      rw [b_0]
      constructor
      · intro h; cases h
      · rintro ⟨p, h, -⟩; omega
  obtain ⟨r, h1, h2, h3, h4, h5⟩ := h
  refine ⟨r, h1, h2, h5, ?_, fun q hq => ?_, fun l hl s hs q hq => ?_⟩
  · rw [uI_ne _ _ _ n18_17, uI_at, h2]
  · have hq32 : q < 32 := by have := cnt_le K n; omega
    rw [uI_at, Bool.eq_iff_iff, h3 q hq32, trG_iff]
    constructor
    · rintro ⟨p, a1, a2⟩; exact ⟨p, by omega, a2⟩
    · rintro ⟨p, a1, a2, a3, a4⟩; exact ⟨p, hA.2.1 p a4, a2, a3, a4⟩
  · obtain ⟨p, a1, a2, a3⟩ := cnt_onto K n s hs
    rw [uI_ne _ _ _ n16_17, uI_ne _ _ _ n16_18, ← a3, Bool.eq_iff_iff, h4 l hl p a1 a2 q hq, trE_iff]
    constructor
    · rintro ⟨q', b1, b2, b3⟩
      have := (hA.2.2 _ _ _ b3).2.2
      exact ⟨p, q', by omega, by omega, a2, b1, rfl, b2, b3⟩
    · rintro ⟨p', q', -, -, b1, b2, b3, b4, b5⟩
      have : p' = p := by
        rcases Nat.lt_trichotomy p' p with h | h | h
        · have := cnt_lt K h b1; omega
        · exact h
        · have := cnt_lt K h a2; omega
      subst this
      exact ⟨q', b2, b4, b5⟩
