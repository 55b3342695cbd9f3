/-! the reference's search in the lasso's graph -/
section BEH
variable {M : Mm} {a n : Nat} {g : Nat → Bool} {e : Ed}
theorem sz_in (ha : a < 6) : inb (nI a) (lenI 18) = true := vp_inb (vp_in_nI (N := 6) ha (by omega))
theorem gd_in (ha : a < 6) : inb (nI a) (lenI 17) = true := vp_inb (vp_in_nI (N := 6) ha (by omega))
theorem to_ix (a l s : Nat) : ((8 : Int32) * nI a + (4 : Int32) * nI l) + nI s = nI (8 * a + 4 * l + s) := by rw [i8, i4, nI_add, nI_add]
theorem to_in {l s : Nat} (ha : a < 6) (hl : l < 2) (hs : s < 4) : inb (nI (8 * a + 4 * l + s)) (lenI 16) = true := vp_inb (vp_in_nI (N := 48) (by omega) (by omega))
/-- the inner loop: the edges of one position -/
theorem behind_in (hA : AOK n g e) (hR : RP M a n g e) (ha : a < 6) (x : Int32) (all : Int64) {p' l : Nat} (hp : p' < 16) (hl : l < 2) : ∃ r, lp (b_M_behind_70 (nI a) x (nI p') (nI l) M) (all, 0) = some r ∧ ∀ i, i < 64 → (bl r.1 i = true ↔ bl all i = true ∨ ∃ s, s < n ∧ bt x s = true ∧ 4 * p' ≤ i ∧ e l s (i - 4 * p') = true) := by
  have hn := hA.1
  refine lp_for n (fun k s => s.2 = nI k ∧ ∀ i, i < 64 → (bl s.1 i = true ↔ bl all i = true ∨ ∃ t, t < k ∧ bt x t = true ∧ 4 * p' ≤ i ∧ e l t (i - 4 * p') = true)) _ (fun k s hk h => ?_) (fun s h => ?_) (k := 0) ⟨rfl, fun i hi => ?_⟩ (by omega) (by omega)
  · obtain ⟨c, i0⟩ := s
    obtain ⟨rfl, h2⟩ := h
    unfold b_M_behind_70
    rw [ck_of (sz_in ha), nI_clamp (by omega)]
    show (∃ s', (if M.1 (1, 18) a ≤ nI k then _ else _) = _ ∧ _) ∨ (∃ r, (if M.1 (1, 18) a ≤ nI k then _ else _) = _ ∧ _)
    rw [if_lt hk (by omega) hR.1]
    cases hb : bt x k
    · rw [if_neg (by rw [b_tst1 x (by omega), hb]; simp)]
      refine Or.inl ⟨_, rfl, nI_inc k, fun i hi => ?_⟩
      show bl c i = true ↔ _
      rw [h2 i hi]
      constructor
      · rintro (h | ⟨t, a1, a2⟩)
        · exact Or.inl h
        · exact Or.inr ⟨t, by omega, a2⟩
      · rintro (h | ⟨t, a1, a2, a3⟩)
        · exact Or.inl h
        · by_cases et : t = k
          · subst et; rw [hb] at a2; cases a2
          · exact Or.inr ⟨t, by omega, a2, a3⟩
    · rw [if_pos (by rw [b_tst1 x (by omega), hb]), to_ix, ck_of (to_in ha hl (by omega)), bd_some, i4, nI_clamp (by omega)]
      refine Or.inl ⟨_, rfl, nI_inc k, fun i hi => ?_⟩
      show bl (c ||| ((M.1 (1, 16) (8 * a + 4 * l + k)).toInt64 <<< ((nI (4 * p')).toInt64 &&& 63))) i = true ↔ _
      have hval : bl ((M.1 (1, 16) (8 * a + 4 * l + k)).toInt64 <<< ((nI (4 * p')).toInt64 &&& 63)) i = true ↔ 4 * p' ≤ i ∧ e l k (i - 4 * p') = true := by
        rw [l_shl (4 * p') (by omega) _ hi, Bool.and_eq_true, decide_eq_true_eq, l_i2l _ (by omega)]
        have h3 := hR.2.2 l hl k hk
        by_cases e1 : i - 4 * p' < 32
        · rw [if_pos e1, h3 _ e1]
        · rw [if_neg e1, h3 31 (by omega)]
          constructor
          · rintro ⟨-, h⟩
            have := (hA.2.2 l k 31 h).2.2; omega
          · rintro ⟨-, h⟩
            have := (hA.2.2 l k _ h).2.2; omega
      rw [l_or, Bool.or_eq_true, h2 i hi, hval]
      constructor
      · rintro ((h | ⟨t, a1, a2⟩) | h)
        · exact Or.inl h
        · exact Or.inr ⟨t, by omega, a2⟩
        · exact Or.inr ⟨k, by omega, hb, h⟩
      · rintro (h | ⟨t, a1, a2, a3⟩)
        · exact Or.inl (Or.inl h)
        · by_cases et : t = k
          · subst et; exact Or.inr a3
          · exact Or.inl (Or.inr ⟨t, by omega, a2, a3⟩)
  · obtain ⟨c, i0⟩ := s
    obtain ⟨rfl, h2⟩ := h
    refine ⟨(c, nI n), ?_, h2⟩
    unfold b_M_behind_70
    rw [ck_of (sz_in ha), nI_clamp (by omega)]
    show (if M.1 (1, 18) a ≤ nI n then _ else _) = _
    rw [if_ge (Nat.le_refl n) (by omega) hR.1]
  · show bl all i = true ↔ _
    constructor
    · intro h; exact Or.inl h
    · rintro (h | ⟨t, h, -⟩)
      · exact h
      · omega
/-- one step of the graph, on sets of nodes -/
def St (n : Nat) (e : Ed) (m : Nat) (u : Int32) (k : Nat) (v : Int32) (x : Int64) (i : Nat) : Prop := ∃ p s, p < m + k ∧ s < n ∧ bl x (4 * p + s) = true ∧ 4 * np m k p ≤ i ∧ e (Lt m u k v p) s (i - 4 * np m k p) = true
theorem states_bit (x : Int64) {p : Nat} (hp : p < 16) {s : Nat} (hs : s < 4) : bt ((((x.toUInt64 >>> ((nI (4 * p)).toInt64.toUInt64 &&& Int64.toUInt64 63)).toInt64) &&& (15 : Int64)).toInt32) s = bl x (4 * p + s) := by
  rw [b_l2i, l_and, l_ushr (4 * p) (by omega), l_15]
  simp [hs, show s < 32 by omega]
theorem behind_eq (hA : AOK n g e) (hR : RP M a n g e) (ha : a < 6) (x : Int64) {m k : Nat} (u v : Int32) (hm : m ≤ 8) (hk : 0 < k) (hk2 : k ≤ 8) : ∃ r, m_M_behind (nI a) x (nI m) u (nI k) v M = some r ∧ ∀ i, i < 64 → (bl r i = true ↔ St n e m u k v x i) := by
  have hn := hA.1
  have h : ∃ r, lp (b_M_behind_6 (nI a) x (nI m) u (nI k) v M) (0, 0) = some r ∧ ∀ i, i < 64 → (bl r.1 i = true ↔ St n e m u k v x i) := by
    refine lp_for (m + k) (fun c s => s.2 = nI c ∧ ∀ i, i < 64 → (bl s.1 i = true ↔ ∃ p s, p < c ∧ s < n ∧ bl x (4 * p + s) = true ∧ 4 * np m k p ≤ i ∧ e (Lt m u k v p) s (i - 4 * np m k p) = true)) _ (fun p s hp h => ?_) (fun s h => ?_) (k := 0) ⟨rfl, fun i hi => ?_⟩ (by omega) (by omega)
    · obtain ⟨c, i0⟩ := s
      obtain ⟨rfl, h2⟩ := h
      have hnp : np m k p < 16 := by unfold np; split <;> omega
      obtain ⟨r, h3, h4⟩ := behind_in hA hR ha ((((x.toUInt64 >>> ((nI (4 * p)).toInt64.toUInt64 &&& Int64.toUInt64 63)).toInt64) &&& (15 : Int64)).toInt32) c hnp (Lt_lt m u k v p)
      refine Or.inl ⟨(r.1, nI (p + 1)), ?_, rfl, fun i hi => ?_⟩
      · unfold b_M_behind_6
        show (if nI m + nI k ≤ nI p then _ else _) = _
        rw [if_lt hp (by omega) (nI_add m k)]
        show bd (some ((((x.toUInt64 >>> ((4 * nI p).toInt64.toUInt64 &&& Int64.toUInt64 63)).toInt64) &&& (15 : Int64)).toInt32)) _ = _
        rw [bd_some, i4, letter_eq u v (by omega) hk (by omega) hp]
        by_cases el : p + 1 = m + k
        · have e1 : np m k p = m := if_pos el
          rw [e1] at h3
          show (if nI p + 1 = nI m + nI k then _ else _) = _
          rw [if_pos (by rw [nI_inc, nI_add, el])]
          show bd (some (nI (Lt m u k v p))) _ = _
          rw [bd_some, h3, bd_some]
          show some (Sum.inl (r.1, nI p + 1)) = _
          rw [nI_inc]
        · have e1 : np m k p = p + 1 := if_neg el
          rw [e1] at h3
          show (if nI p + 1 = nI m + nI k then _ else _) = _
          rw [if_neg (by rw [nI_inc, nI_add, nI_eq (by omega) (by omega)]; exact el)]
          show bd (some (nI (Lt m u k v p))) _ = _
          rw [bd_some]
          show bd (lp (b_M_behind_70 (nI a) _ (nI p + 1) (nI (Lt m u k v p)) M) (c, 0)) _ = _
          rw [nI_inc, h3, bd_some]
      · rw [h4 i hi, h2 i hi]
        constructor
        · rintro (⟨p', s, a1, a2⟩ | ⟨s, a1, a2, a3⟩)
          · exact ⟨p', s, by omega, a2⟩
          · rw [states_bit x (by omega) (by omega)] at a2
            exact ⟨p, s, by omega, a1, a2, a3⟩
        · rintro ⟨p', s, a1, a2, a3, a4⟩
          by_cases ep : p' = p
          · subst ep
            refine Or.inr ⟨s, a2, ?_, a4⟩
            rw [states_bit x (by omega) (by omega)]; exact a3
          · exact Or.inl ⟨p', s, by omega, a2, a3, a4⟩
    · obtain ⟨c, i0⟩ := s
      obtain ⟨rfl, h2⟩ := h
      refine ⟨(c, nI (m + k)), ?_, h2⟩
      unfold b_M_behind_6
      show (if nI m + nI k ≤ nI (m + k) then _ else _) = _
      rw [if_ge (Nat.le_refl (m + k)) (by omega) (nI_add m k)]
    · show bl 0 i = true ↔ _
      rw [l_0]
      constructor
      · intro h; cases h
      · rintro ⟨p, s, h, -⟩; omega
  obtain ⟨r, h1, h2⟩ := h
  refine ⟨r.1, ?_, h2⟩
  unfold m_M_behind
  rw [h1, bd_some]
end BEH
