/-! the reference's alive and living -/
section ALV
variable {M : Mm} {a n : Nat} {g : Nat → Bool} {e : Ed}
def Lt2 (n : Nat) (g : Nat → Bool) (e : Ed) (s t : Nat) : Prop := g t = true ∧ pl (ae n e) t t ∧ (s = t ∨ pl (ae n e) s t)
theorem alive_in (hA : AOK n g e) (hR : RP M a n g e) (ha : a < 6) {s : Nat} (hs : s < n) : ∃ r, lp (b_M_alive_30 (nI a) (nI s) M) (0, 0) = some r ∧ (r.1 = 0 ↔ ¬ ∃ t, Lt2 n g e s t) := by
  have hn := hA.1
  have h : ∃ r, lp (b_M_alive_30 (nI a) (nI s) M) (0, 0) = some r ∧ ((r.1 = 1 ∧ ∃ t, t < n ∧ Lt2 n g e s t) ∨ (r.1 = 0 ∧ ∀ t, t < n → ¬ Lt2 n g e s t)) := by
    refine lp_for n (fun k st => st.2 = nI k ∧ ((st.1 = 1 ∧ ∃ t, t < k ∧ Lt2 n g e s t) ∨ (st.1 = 0 ∧ ∀ t, t < k → ¬ Lt2 n g e s t))) _ (fun k st hk h => ?_) (fun st h => ?_) (k := 0) ⟨rfl, Or.inr ⟨rfl, fun t ht => by omega⟩⟩ (by omega) (by omega)
    · obtain ⟨f, i0⟩ := st
      obtain ⟨rfl, h2⟩ := h
      have h2 : (f = 1 ∧ ∃ t, t < k ∧ Lt2 n g e s t) ∨ (f = 0 ∧ ∀ t, t < k → ¬ Lt2 n g e s t) := h2
      have yes : Lt2 n g e s k → ((1 : Int32) = 1 ∧ ∃ t, t < k + 1 ∧ Lt2 n g e s t) ∨ ((1 : Int32) = 0 ∧ ∀ t, t < k + 1 → ¬ Lt2 n g e s t) := fun h => Or.inl ⟨rfl, k, by omega, h⟩
      have no : ¬ Lt2 n g e s k → (if f = 0 then (some (Sum.inl ((0 : Int32), nI k + 1)) : Option ((Int32 × Int32) ⊕ (Int32 × Int32))) else some (Sum.inl ((1 : Int32), nI k + 1))) = some (Sum.inl (f, nI k + 1)) ∧ ((f = 1 ∧ ∃ t, t < k + 1 ∧ Lt2 n g e s t) ∨ (f = 0 ∧ ∀ t, t < k + 1 → ¬ Lt2 n g e s t)) := fun h => by
        rcases h2 with ⟨rfl, t, b1, b2⟩ | ⟨rfl, h5⟩
        · exact ⟨rfl, Or.inl ⟨rfl, t, by omega, b2⟩⟩
        · refine ⟨rfl, Or.inr ⟨rfl, fun t ht => ?_⟩⟩
          by_cases et : t = k
          · subst et; exact h
          · exact h5 t (by omega)
      unfold b_M_alive_30
      rw [ck_of (sz_in ha), nI_clamp (show a < 2 ^ 31 by omega)]
      show (∃ s', (if M.1 (1, 18) a ≤ nI k then _ else _) = _ ∧ _) ∨ (∃ r, (if M.1 (1, 18) a ≤ nI k then _ else _) = _ ∧ _)
      rw [if_lt hk (by omega) hR.1, ck_of (gd_in ha)]
      obtain ⟨r1, a1, a2⟩ := ahead_eq hA hR ha hk
      cases hg : g k
      · rw [if_neg (by rw [b_tst1 _ (by omega), hR.2.1 k hk, hg]; simp)]
        obtain ⟨e1, e2⟩ := no (fun h => by rw [h.1] at hg; cases hg)
        exact Or.inl ⟨_, e1, nI_inc k, e2⟩
      · rw [if_pos (by rw [b_tst1 _ (by omega), hR.2.1 k hk, hg])]
        show (∃ s', bd (m_M_ahead (nI a) (nI k) M) _ = _ ∧ _) ∨ _
        rw [a1, bd_some]
        cases hb : bt r1 k
        · rw [if_neg (by rw [b_tst1 _ (by omega), hb]; simp)]
          obtain ⟨e1, e2⟩ := no (fun h => by rw [(a2 k (by omega)).mpr h.2.1] at hb; cases hb)
          exact Or.inl ⟨_, e1, nI_inc k, e2⟩
        · rw [if_pos (by rw [b_tst1 _ (by omega), hb])]
          have hkk := (a2 k (by omega)).mp hb
          rcases h2 with ⟨rfl, t, b1, b2⟩ | ⟨rfl, h2⟩
          · refine Or.inl ⟨(1, nI k + 1), rfl, nI_inc k, Or.inl ⟨rfl, t, by omega, b2⟩⟩
          · show (∃ s', (if nI s = nI k then _ else _) = _ ∧ _) ∨ _
            by_cases hsk : s = k
            · rw [if_pos (by rw [hsk])]
              exact Or.inl ⟨(1, nI k + 1), rfl, nI_inc k, yes ⟨hg, hkk, Or.inl hsk⟩⟩
            · rw [if_neg (by rw [nI_eq (by omega) (by omega)]; exact hsk)]
              obtain ⟨r2, c1, c2⟩ := ahead_eq hA hR ha hs
              rw [c1, bd_some]
              cases hb2 : bt r2 k
              · rw [if_neg (by rw [b_tst1 _ (by omega), hb2]; simp)]
                obtain ⟨e1, e2⟩ := no (fun h => by
                  rcases h.2.2 with h | h
                  · exact hsk h
                  · rw [(c2 k (by omega)).mpr h] at hb2; cases hb2)
                exact Or.inl ⟨_, rfl, nI_inc k, e2⟩
              · rw [if_pos (by rw [b_tst1 _ (by omega), hb2])]
                exact Or.inl ⟨(1, nI k + 1), rfl, nI_inc k, yes ⟨hg, hkk, Or.inr ((c2 k (by omega)).mp hb2)⟩⟩
    · obtain ⟨f, i0⟩ := st
      obtain ⟨rfl, h2⟩ := h
      refine ⟨(f, nI n), ?_, h2⟩
      unfold b_M_alive_30
      rw [ck_of (sz_in ha), nI_clamp (show a < 2 ^ 31 by omega)]
      show (if M.1 (1, 18) a ≤ nI n then _ else _) = _
      rw [if_ge (Nat.le_refl n) (by omega) hR.1]
  obtain ⟨r, h1, h2⟩ := h
  refine ⟨r, h1, ?_⟩
  rcases h2 with ⟨e1, t, -, h2⟩ | ⟨e1, h2⟩
  · rw [e1]
    exact ⟨fun h => absurd h (by decide), fun h => absurd ⟨t, h2⟩ h⟩
  · rw [e1]
    refine ⟨fun _ => ?_, fun _ => rfl⟩
    rintro ⟨t, h3⟩
    exact h2 t (plae_lt hA h3.2.1).1 h3
theorem alive_eq (hA : AOK n g e) (hR : RP M a n g e) (ha : a < 6) {s : Nat} (hs : s < n) : ∃ b, m_M_alive (nI a) (nI s) M = some b ∧ (b = true ↔ Lv n g e s) := by
  have hn := hA.1
  obtain ⟨r, h1, h2⟩ := alive_in hA hR ha hs
  unfold m_M_alive
  have tail : (s = 0 ∨ pl (ae n e) 0 s) → ∃ b, (bd (lp (b_M_alive_30 (nI a) (nI s) M) (0, 0)) fun r3 => if r3.1 = 0 then some false else some true) = some b ∧ (b = true ↔ Lv n g e s) := fun h0 => by
    rw [h1, bd_some]
    by_cases hr : r.1 = 0
    · rw [if_pos hr]
      refine ⟨false, rfl, fun h => (by cases h), fun h => ?_⟩
      obtain ⟨-, -, t, h3⟩ := h
      exact absurd ⟨t, h3⟩ (h2.mp hr)
    · rw [if_neg hr]
      refine ⟨true, rfl, fun _ => ?_, fun _ => rfl⟩
      apply Classical.byContradiction
      intro hno
      refine hr (h2.mpr ?_)
      rintro ⟨t, h3⟩
      exact hno ⟨hs, h0, t, h3⟩
  by_cases h0 : s = 0
  · subst h0
    rw [if_pos nI_0]
    exact tail (Or.inl rfl)
  · rw [if_neg (nI_ne0 (by omega) (by omega))]
    obtain ⟨r4, a1, a2⟩ := ahead_eq hA hR ha (f := 0) (by omega)
    rw [show (0 : Int32) = nI 0 from rfl, a1, bd_some]
    cases hb : bt r4 s
    · rw [if_neg (by rw [b_tst1 _ (by omega), hb]; simp)]
      show ∃ b, bd (lp (b_M_alive_30 (nI a) (nI s) M) (0, 0)) _ = _ ∧ _
      rw [h1, bd_some]
      refine ⟨false, rfl, fun h => (by cases h), fun h => ?_⟩
      rcases h.2.1 with h | h
      · exact absurd h h0
      · rw [(a2 s (by omega)).mpr h] at hb; cases hb
    · rw [if_pos (by rw [b_tst1 _ (by omega), hb])]
      exact tail (Or.inr ((a2 s (by omega)).mp hb))
theorem living_eq (hA : AOK n g e) (hR : RP M a n g e) (ha : a < 6) : ∃ r, m_M_living (nI a) M = some r ∧ ∀ i, bt r i = true ↔ Lv n g e i := by
  have hn := hA.1
  have h : ∃ r, lp (b_M_living_4 (nI a) M) (0, 0) = some r ∧ ∀ i, bt r.1 i = true ↔ i < n ∧ Lv n g e i := by
    refine lp_for n (fun k st => st.2 = nI k ∧ ∀ i, bt st.1 i = true ↔ i < k ∧ Lv n g e i) _ (fun k st hk h => ?_) (fun st h => ?_) (k := 0) ⟨rfl, fun i => ?_⟩ (by omega) (by omega)
    · obtain ⟨f, i0⟩ := st
      obtain ⟨rfl, h2⟩ := h
      have h2 : ∀ i, bt f i = true ↔ i < k ∧ Lv n g e i := h2
      unfold b_M_living_4
      rw [ck_of (sz_in ha), nI_clamp (show a < 2 ^ 31 by omega)]
      show (∃ s', (if M.1 (1, 18) a ≤ nI k then _ else _) = _ ∧ _) ∨ (∃ r, (if M.1 (1, 18) a ≤ nI k then _ else _) = _ ∧ _)
      rw [if_lt hk (by omega) hR.1]
      obtain ⟨b, a1, a2⟩ := alive_eq hA hR ha hk
      show (∃ s', bd (m_M_alive (nI a) (nI k) M) _ = _ ∧ _) ∨ _
      rw [a1, bd_some]
      cases b with
      | false =>
        refine Or.inl ⟨(f, nI k + 1), rfl, nI_inc k, fun i => ?_⟩
        show bt f i = true ↔ _
        rw [h2 i]
        constructor
        · rintro ⟨b1, b2⟩; exact ⟨by omega, b2⟩
        · rintro ⟨b1, b2⟩
          by_cases ei : i = k
          · subst ei
            have := a2.mpr b2; cases this
          · exact ⟨by omega, b2⟩
      | true =>
        refine Or.inl ⟨(f ||| ((1 : Int32) <<< (nI k &&& 31)), nI k + 1), rfl, nI_inc k, fun i => ?_⟩
        show bt (f ||| ((1 : Int32) <<< (nI k &&& 31))) i = true ↔ _
        rw [b_or, b_bit (by omega), Bool.or_eq_true, h2 i, decide_eq_true_eq]
        constructor
        · rintro (⟨b1, b2⟩ | rfl)
          · exact ⟨by omega, b2⟩
          · exact ⟨by omega, a2.mp rfl⟩
        · rintro ⟨b1, b2⟩
          by_cases ei : i = k
          · exact Or.inr ei
          · exact Or.inl ⟨by omega, b2⟩
    · obtain ⟨f, i0⟩ := st
      obtain ⟨rfl, h2⟩ := h
      refine ⟨(f, nI n), ?_, h2⟩
      unfold b_M_living_4
      rw [ck_of (sz_in ha), nI_clamp (show a < 2 ^ 31 by omega)]
      show (if M.1 (1, 18) a ≤ nI n then _ else _) = _
      rw [if_ge (Nat.le_refl n) (by omega) hR.1]
    · show bt 0 i = true ↔ _
      rw [b_0]
      constructor
      · intro h; cases h
      · rintro ⟨h, -⟩; omega
  obtain ⟨r, h1, h2⟩ := h
  unfold m_M_living
  rw [h1, bd_some]
  by_cases h0 : bt r.1 0 = true
  · have e1 : (r.1 &&& 1) = 1 := by
      refine b_ext fun i hi => ?_
      rw [b_and, b_1]
      by_cases ei : i = 0
      · subst ei; simp [h0]
      · simp [ei]
    rw [if_pos e1]
    refine ⟨r.1, rfl, fun i => ?_⟩
    rw [h2 i]
    exact ⟨fun h => h.2, fun h => ⟨h.1, h⟩⟩
  · have e1 : ¬ (r.1 &&& 1) = 1 := by
      intro h
      have : bt (r.1 &&& 1) 0 = true := by rw [h, b_1]; rfl
      rw [b_and, b_1] at this
      simp at this
      exact h0 this
    rw [if_neg e1]
    refine ⟨0, rfl, fun i => ?_⟩
    rw [b_0]
    refine ⟨fun h => (by cases h), fun h => ?_⟩
    have h3 := Lv_0 h
    exact absurd ((h2 0).mpr ⟨h3.1, h3⟩) h0
/-- class and reference: the same living states -/
theorem same_living {M' : Mm} {j : Nat} {x y : Int32} (h1 : ∀ i, bt x i = true ↔ Lv n g e i) (h2 : ∀ i, bt y i = true ↔ Lv n g e i) : x = y := b_ext fun i _ => by
  rw [Bool.eq_iff_iff, h1 i, h2 i]
end ALV
