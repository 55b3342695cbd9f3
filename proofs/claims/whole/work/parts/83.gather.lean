/-! the reference's gathering of codes -/
/-- ints as before but for the digits; the law's long as before -/
def FGa (M M' : Mm) : Prop := (∀ z, z ≠ (1, 20) → z ≠ (1, 21) → M'.1 z = M.1 z) ∧ M'.2 (2, 3) = M.2 (2, 3)
theorem FGa.rfl {M : Mm} : FGa M M := ⟨fun _ _ _ => Eq.refl _, Eq.refl _⟩
theorem FGa.trans {A B C : Mm} (h1 : FGa A B) (h2 : FGa B C) : FGa A C := ⟨fun z h h' => (h2.1 z h h').trans (h1.1 z h h'), h2.2.trans h1.2⟩
theorem FGa.RP {M M' : Mm} (h : FGa M M') {a n : Nat} {g : Nat → Bool} {e : Ed} (hR : RP M a n g e) : RP M' a n g e := RP_of hR (h.1 _ (cells_ne (by omega)) (cells_ne (by omega))) (h.1 _ (cells_ne (by omega)) (cells_ne (by omega))) (h.1 _ (cells_ne (by omega)) (cells_ne (by omega)))
theorem FL.FGa {M M' : Mm} {c : Nat} (hc : c < 3) (h : FL c M M') : FGa M M' := ⟨h.1, h.2 _ (cells_ne (by omega))⟩
theorem bl_ext {x y : Int64} (h : ∀ i, i < 64 → (bl x i = true ↔ bl y i = true)) : x = y := l_ext fun i hi => by rw [Bool.eq_iff_iff]; exact h i hi
theorem sb_0 {M : Mm} {c x : Nat} (h : M.2 (2, c) (x / 64) = 0) : ¬ sb M c x := fun hb => by
  unfold sb at hb
  rw [h, l_0] at hb
  cases hb
theorem clear_eq (M : Mm) : ∃ r, lp b_M_gather_3 (0, M) = some r ∧ ((∀ x, x < 157504 → ¬ sb r.2 0 x ∧ ¬ sb r.2 1 x) ∧ r.2.1 = M.1 ∧ r.2.2 (2, 3) = M.2 (2, 3)) := by
  have h : ∃ r, lp b_M_gather_3 (0, M) = some r ∧ ((∀ i, i < 2461 → r.2.2 (2, 0) i = 0 ∧ r.2.2 (2, 1) i = 0) ∧ r.2.1 = M.1 ∧ r.2.2 (2, 3) = M.2 (2, 3)) := by
    refine lp_for 2461 (fun k s => s.1 = nI k ∧ (∀ i, i < k → s.2.2 (2, 0) i = 0 ∧ s.2.2 (2, 1) i = 0) ∧ s.2.1 = M.1 ∧ s.2.2 (2, 3) = M.2 (2, 3)) _ (fun k s hk h => ?_) (fun s h => ?_) (k := 0) ⟨rfl, fun i hi => by omega, rfl, rfl⟩ (by omega) (by omega)
    · obtain ⟨i0, A⟩ := s
      obtain ⟨rfl, h2, h3, h4⟩ := h
      have h2 : ∀ i, i < k → A.2 (2, 0) i = 0 ∧ A.2 (2, 1) i = 0 := h2
      refine Or.inl ⟨(nI (k + 1), uL (uL A (2, 0) k 0) (2, 1) k 0), ?_, rfl, fun i hi => ?_, h3, ?_⟩
      · unfold b_M_gather_3
        dsimp only
        rw [if_lt (x := 2461) (B := 2461) hk (by omega) rfl, ck_of (inL (by omega) hk), nI_clamp (by omega), bd_some, ck_of (inL (by omega) hk), bd_some, nI_inc]
      · by_cases e : i = k
        · subst e
          exact ⟨by rw [uL_ne _ _ _ (cells_ne (by omega)), uL_at], uL_at _ _ _ _⟩
        · have := h2 i (by omega)
          exact ⟨by rw [uL_ne _ _ _ (cells_ne (by omega)), uL_off _ _ _ e]; exact this.1, by rw [uL_off _ _ _ e, uL_ne _ _ _ (cells_ne (by omega))]; exact this.2⟩
      · rw [uL_ne _ _ _ (cells_ne (by omega)), uL_ne _ _ _ (cells_ne (by omega))]; exact h4
    · obtain ⟨i0, A⟩ := s
      obtain ⟨rfl, h2, h3, h4⟩ := h
      refine ⟨(nI 2461, A), ?_, h2, h3, h4⟩
      unfold b_M_gather_3
      dsimp only
      rw [if_ge (x := 2461) (B := 2461) (Nat.le_refl _) (by omega) rfl]
  obtain ⟨r, h1, h2, h3, h4⟩ := h
  exact ⟨r, h1, fun x hx => ⟨sb_0 (h2 _ (by omega)).1, sb_0 (h2 _ (by omega)).2⟩, h3, h4⟩
/-- fresh codes are seen; none are coming -/
theorem merge_eq (M : Mm) : ∃ r, lp b_M_gather_106 (0, M) = some r ∧ ((∀ x, x < 157504 → (sb r.2 0 x ↔ sb M 0 x ∨ sb M 1 x) ∧ ¬ sb r.2 2 x) ∧ r.2.2 (2, 1) = M.2 (2, 1) ∧ r.2.1 = M.1 ∧ r.2.2 (2, 3) = M.2 (2, 3)) := by
  have h : ∃ r, lp b_M_gather_106 (0, M) = some r ∧ ((∀ i, i < 2461 → r.2.2 (2, 0) i = (M.2 (2, 0) i ||| M.2 (2, 1) i) ∧ r.2.2 (2, 2) i = 0) ∧ r.2.2 (2, 1) = M.2 (2, 1) ∧ r.2.1 = M.1 ∧ r.2.2 (2, 3) = M.2 (2, 3)) := by
    refine lp_for 2461 (fun k s => s.1 = nI k ∧ (∀ i, i < 2461 → if i < k then s.2.2 (2, 0) i = (M.2 (2, 0) i ||| M.2 (2, 1) i) ∧ s.2.2 (2, 2) i = 0 else s.2.2 (2, 0) i = M.2 (2, 0) i) ∧ s.2.2 (2, 1) = M.2 (2, 1) ∧ s.2.1 = M.1 ∧ s.2.2 (2, 3) = M.2 (2, 3)) _ (fun k s hk h => ?_) (fun s h => ?_) (k := 0) ⟨rfl, fun i hi => by rw [if_neg (by omega)], rfl, rfl, rfl⟩ (by omega) (by omega)
    · obtain ⟨i0, A⟩ := s
      obtain ⟨rfl, h2, h3, h4, h5⟩ := h
      have h2 : ∀ i, i < 2461 → if i < k then A.2 (2, 0) i = (M.2 (2, 0) i ||| M.2 (2, 1) i) ∧ A.2 (2, 2) i = 0 else A.2 (2, 0) i = M.2 (2, 0) i := h2
      have h3 : A.2 (2, 1) = M.2 (2, 1) := h3
      refine Or.inl ⟨(nI (k + 1), uL (uL A (2, 0) k (A.2 (2, 0) k ||| A.2 (2, 1) k)) (2, 2) k 0), ?_, rfl, fun i hi => ?_, ?_, h4, ?_⟩
      · unfold b_M_gather_106
        dsimp only
        rw [if_lt (x := 2461) (B := 2461) hk (by omega) rfl, ck_of (inL (by omega) hk), ck_of (inL (by omega) hk), ck_of (inL (by omega) hk), nI_clamp (by omega), bd_some, ck_of (inL (by omega) hk), bd_some, nI_inc]
      · dsimp only
        have := h2 i hi
        by_cases e : i = k
        · subst e
          rw [if_neg (by omega)] at this
          rw [if_pos (by omega)]
          exact ⟨by rw [uL_ne _ _ _ (cells_ne (by omega)), uL_at, this, h3], uL_at _ _ _ _⟩
        · by_cases e2 : i < k
          · rw [if_pos e2] at this
            rw [if_pos (by omega)]
            exact ⟨by rw [uL_ne _ _ _ (cells_ne (by omega)), uL_off _ _ _ e]; exact this.1, by rw [uL_off _ _ _ e, uL_ne _ _ _ (cells_ne (by omega))]; exact this.2⟩
          · rw [if_neg e2] at this
            rw [if_neg (by omega), uL_ne _ _ _ (cells_ne (by omega)), uL_off _ _ _ e]; exact this
      · rw [uL_ne _ _ _ (cells_ne (by omega)), uL_ne _ _ _ (cells_ne (by omega))]; exact h3
      · rw [uL_ne _ _ _ (cells_ne (by omega)), uL_ne _ _ _ (cells_ne (by omega))]; exact h5
    · obtain ⟨i0, A⟩ := s
      obtain ⟨rfl, h2, h3, h4, h5⟩ := h
      refine ⟨(nI 2461, A), ?_, fun i hi => ?_, h3, h4, h5⟩
      · unfold b_M_gather_106
        dsimp only
        rw [if_ge (x := 2461) (B := 2461) (Nat.le_refl _) (by omega) rfl]
      · have := h2 i hi
        rw [if_pos hi] at this; exact this
  obtain ⟨r, h1, h2, h3, h4, h5⟩ := h
  refine ⟨r, h1, fun x hx => ⟨?_, sb_0 (h2 _ (by omega)).2⟩, h3, h4, h5⟩
  unfold sb
  rw [(h2 (x / 64) (by omega)).1, l_or, Bool.or_eq_true]
/-- what is coming and not seen is fresh -/
theorem sift_eq (M : Mm) : ∃ r, lp b_M_gather_232 (0, 0, M) = some r ∧ ((∀ x, x < 157504 → (sb r.2.2 1 x ↔ sb M 2 x ∧ ¬ sb M 0 x)) ∧ r.2.2.2 (2, 0) = M.2 (2, 0) ∧ r.2.2.1 = M.1 ∧ r.2.2.2 (2, 3) = M.2 (2, 3) ∧ ((r.1 = 0 ∧ ∀ x, x < 157504 → ¬ sb r.2.2 1 x) ∨ (r.1 = 1 ∧ ∃ x, x < 157504 ∧ sb r.2.2 1 x))) := by
  have h : ∃ r, lp b_M_gather_232 (0, 0, M) = some r ∧ ((∀ i, i < 2461 → r.2.2.2 (2, 1) i = (M.2 (2, 2) i &&& (M.2 (2, 0) i ^^^ (-1 : Int64)))) ∧ r.2.2.2 (2, 0) = M.2 (2, 0) ∧ r.2.2.2 (2, 2) = M.2 (2, 2) ∧ r.2.2.1 = M.1 ∧ r.2.2.2 (2, 3) = M.2 (2, 3) ∧ ((r.1 = 0 ∧ ∀ i, i < 2461 → r.2.2.2 (2, 1) i = 0) ∨ (r.1 = 1 ∧ ∃ i, i < 2461 ∧ r.2.2.2 (2, 1) i ≠ 0))) := by
    refine lp_for 2461 (fun k s => s.2.1 = nI k ∧ (∀ i, i < k → s.2.2.2 (2, 1) i = (M.2 (2, 2) i &&& (M.2 (2, 0) i ^^^ (-1 : Int64)))) ∧ s.2.2.2 (2, 0) = M.2 (2, 0) ∧ s.2.2.2 (2, 2) = M.2 (2, 2) ∧ s.2.2.1 = M.1 ∧ s.2.2.2 (2, 3) = M.2 (2, 3) ∧ ((s.1 = 0 ∧ ∀ i, i < k → s.2.2.2 (2, 1) i = 0) ∨ (s.1 = 1 ∧ ∃ i, i < k ∧ s.2.2.2 (2, 1) i ≠ 0))) _ (fun k s hk h => ?_) (fun s h => ?_) (k := 0) ⟨rfl, fun i hi => by omega, rfl, rfl, rfl, rfl, Or.inl ⟨rfl, fun i hi => by omega⟩⟩ (by omega) (by omega)
    · obtain ⟨f, i0, A⟩ := s
      obtain ⟨rfl, h2, h3, h4, h5, h6, h7⟩ := h
      have h2 : ∀ i, i < k → A.2 (2, 1) i = (M.2 (2, 2) i &&& (M.2 (2, 0) i ^^^ (-1 : Int64))) := h2
      have h3 : A.2 (2, 0) = M.2 (2, 0) := h3
      have h4 : A.2 (2, 2) = M.2 (2, 2) := h4
      have h7 : (f = 0 ∧ ∀ i, i < k → A.2 (2, 1) i = 0) ∨ (f = 1 ∧ ∃ i, i < k ∧ A.2 (2, 1) i ≠ 0) := h7
      unfold b_M_gather_232
      dsimp only
      rw [if_lt (x := 2461) (B := 2461) hk (by omega) rfl, ck_of (inL (by omega) hk), ck_of (inL (by omega) hk), ck_of (inL (by omega) hk), nI_clamp (by omega), bd_some, h3, h4]
      generalize hv : (M.2 (2, 2) k &&& (M.2 (2, 0) k ^^^ (-1 : Int64))) = v
      have tl : ∀ f' : Int32, ((f' = 0 ∧ f = 0 ∧ v = 0) ∨ (f' = 1 ∧ (f = 1 ∨ v ≠ 0))) → (∃ s' : Int32 × Int32 × Mm, some (Sum.inl (f', nI k + 1, uL A (2, 1) k v)) = (some (Sum.inl s') : Option ((Int32 × Int32 × Mm) ⊕ (Int32 × Int32 × Mm))) ∧ s'.2.1 = nI (k + 1) ∧ (∀ i, i < k + 1 → s'.2.2.2 (2, 1) i = (M.2 (2, 2) i &&& (M.2 (2, 0) i ^^^ (-1 : Int64)))) ∧ s'.2.2.2 (2, 0) = M.2 (2, 0) ∧ s'.2.2.2 (2, 2) = M.2 (2, 2) ∧ s'.2.2.1 = M.1 ∧ s'.2.2.2 (2, 3) = M.2 (2, 3) ∧ ((s'.1 = 0 ∧ ∀ i, i < k + 1 → s'.2.2.2 (2, 1) i = 0) ∨ (s'.1 = 1 ∧ ∃ i, i < k + 1 ∧ s'.2.2.2 (2, 1) i ≠ 0))) := fun f' hf' => by
        have cell : ∀ i, i ≠ k → (uL A (2, 1) k v).2 (2, 1) i = A.2 (2, 1) i := fun i hi => uL_off _ _ _ hi
        have cellk : (uL A (2, 1) k v).2 (2, 1) k = v := uL_at _ _ _ _
        refine ⟨_, rfl, nI_inc k, fun i hi => ?_, ?_, ?_, h5, ?_, ?_⟩
        · show (uL A (2, 1) k v).2 (2, 1) i = _
          by_cases e : i = k
          · subst e; rw [cellk, hv]
          · rw [cell i e]; exact h2 i (by omega)
        · show (uL A (2, 1) k v).2 (2, 0) = _
          rw [uL_ne _ _ _ (cells_ne (by omega))]; exact h3
        · show (uL A (2, 1) k v).2 (2, 2) = _
          rw [uL_ne _ _ _ (cells_ne (by omega))]; exact h4
        · show (uL A (2, 1) k v).2 (2, 3) = _
          rw [uL_ne _ _ _ (cells_ne (by omega))]; exact h6
        · show (f' = 0 ∧ ∀ i, i < k + 1 → (uL A (2, 1) k v).2 (2, 1) i = 0) ∨ (f' = 1 ∧ ∃ i, i < k + 1 ∧ (uL A (2, 1) k v).2 (2, 1) i ≠ 0)
          rcases hf' with ⟨e1, e2, e3⟩ | ⟨e1, e2⟩
          · refine Or.inl ⟨e1, fun i hi => ?_⟩
            by_cases e : i = k
            · subst e; rw [cellk, e3]
            · rw [cell i e]
              rcases h7 with ⟨-, h⟩ | ⟨h, -⟩
              · exact h i (by omega)
              · rw [e2] at h; exact absurd h (by decide)
          · refine Or.inr ⟨e1, ?_⟩
            rcases e2 with e2 | e2
            · rcases h7 with ⟨h, -⟩ | ⟨-, i, i1, i2⟩
              · rw [e2] at h; exact absurd h (by decide)
              · exact ⟨i, by omega, by rw [cell i (by omega)]; exact i2⟩
            · exact ⟨k, by omega, by rw [cellk]; exact e2⟩
      have hck : (uL A (2, 1) k v).2 (2, 1) k = v := uL_at _ _ _ _
      rcases h7 with ⟨e0, -⟩ | ⟨e1, -⟩
      · rw [if_pos e0, ck_of (inL (by omega) hk), hck]
        by_cases hz : v = 0
        · rw [if_pos ((lg_0 _ _).mpr hz)]
          exact Or.inl (tl 0 (Or.inl ⟨rfl, e0, hz⟩))
        · rw [if_neg (fun h => hz ((lg_0 _ _).mp h))]
          exact Or.inl (tl 1 (Or.inr ⟨rfl, Or.inr hz⟩))
      · rw [if_neg (by rw [e1]; decide)]
        exact Or.inl (tl 1 (Or.inr ⟨rfl, Or.inl e1⟩))
    · obtain ⟨f, i0, A⟩ := s
      obtain ⟨rfl, h2⟩ := h
      refine ⟨(f, nI 2461, A), ?_, h2⟩
      unfold b_M_gather_232
      dsimp only
      rw [if_ge (x := 2461) (B := 2461) (Nat.le_refl _) (by omega) rfl]
  obtain ⟨r, h1, h2, h3, h4, h5, h6, h7⟩ := h
  have hb : ∀ x, x < 157504 → (sb r.2.2 1 x ↔ sb M 2 x ∧ ¬ sb M 0 x) := fun x hx => by
    unfold sb
    rw [h2 (x / 64) (by omega), l_and]
    have hx1 : bl (M.2 (2, 0) (x / 64) ^^^ (-1 : Int64)) (x % 64) = !bl (M.2 (2, 0) (x / 64)) (x % 64) := by
      unfold bl
      rw [Int64.toBitVec_xor, BitVec.getLsbD_xor]
      have : (-1 : Int64).toBitVec.getLsbD (x % 64) = true := (by decide +kernel : ∀ i, i < 64 → (-1 : Int64).toBitVec.getLsbD i = true) _ (by omega)
      rw [this]
      cases (M.2 (2, 0) (x / 64)).toBitVec.getLsbD (x % 64) <;> rfl
    rw [hx1, Bool.and_eq_true, Bool.not_eq_true']
    simp
  refine ⟨r, h1, hb, h3, h5, h6, ?_⟩
  rcases h7 with ⟨e, h⟩ | ⟨e, i, i1, i2⟩
  · exact Or.inl ⟨e, fun x hx => sb_0 (h _ (by omega))⟩
  · refine Or.inr ⟨e, ?_⟩
    apply Classical.byContradiction
    intro hn
    refine i2 (l_eq0.mpr fun q hq => ?_)
    cases hbq : bl (r.2.2.2 (2, 1) i) q
    · rfl
    · refine absurd ⟨64 * i + q, by omega, ?_⟩ hn
      unfold sb
      rw [show (64 * i + q) / 64 = i by omega, show (64 * i + q) % 64 = q by omega]
      exact hbq
section GATH
variable {na nb : Nat} {ga gb : Nat → Bool} {ea eb : Ed} {a b : Nat}
theorem sb_FL {M M' : Mm} (h : FL 2 M M') {c : Nat} (hc : c ≠ 2) (x : Nat) : sb M' c x ↔ sb M c x := by
  unfold sb
  rw [h.2 _ (cells_ne (by omega))]
theorem leads_in {M0 M : Mm} {k : Nat} (hk : k < 2461) (ha : a < 6) (hb : b < 6) (hAa : AOK na ga ea) (hAb : AOK nb gb eb) (hnb : nb ≤ 3) (hRa : RP M0 a na ga ea) (hRb : RP M0 b nb gb eb) (hF : FL 2 M0 M) (hS : ∀ x, x < 157504 → sb M0 1 x → x < 157464 ∧ x / 19683 / 2 < na) : ∃ r, lp (b_M_gather_164 (nI a) (nI b) (nI k)) (0, M) = some r ∧ ((∀ y, (sb r.2 2 y ↔ sb M 2 y ∨ ∃ j, j < 64 ∧ sb M0 1 (64 * k + j) ∧ sx ga ea nb gb eb (64 * k + j) y)) ∧ FL 2 M0 r.2) := by
  refine lp_for 64 (fun i st => st.1 = nI i ∧ (∀ y, (sb st.2 2 y ↔ sb M 2 y ∨ ∃ j, j < i ∧ sb M0 1 (64 * k + j) ∧ sx ga ea nb gb eb (64 * k + j) y)) ∧ FL 2 M0 st.2) _ (fun i st hi h => ?_) (fun st h => ?_) (k := 0) ⟨rfl, fun y => ?_, hF⟩ (by omega) (by omega)
  · obtain ⟨i0, A⟩ := st
    obtain ⟨rfl, h2, h3⟩ := h
    have h2 : ∀ y, (sb A 2 y ↔ sb M 2 y ∨ ∃ j, j < i ∧ sb M0 1 (64 * k + j) ∧ sx ga ea nb gb eb (64 * k + j) y) := h2
    have h3 : FL 2 M0 A := h3
    have hA1 : A.2 (2, 1) = M0.2 (2, 1) := h3.2 _ (cells_ne (by omega))
    have hbit : ∀ j, j < 64 → (sb M0 1 (64 * k + j) ↔ bl (A.2 (2, 1) k) j = true) := fun j hj => by
      unfold sb
      rw [show (64 * k + j) / 64 = k by omega, show (64 * k + j) % 64 = j by omega, hA1]
    unfold b_M_gather_164
    dsimp only
    rw [if_lt (x := 64) (B := 64) hi (by omega) rfl, ck_of (inL (by omega) hk), nI_clamp (by omega)]
    by_cases hz : A.2 (2, 1) k = 0
    · rw [if_pos ((lg_0 _ _).mpr hz)]
      refine Or.inr ⟨_, rfl, fun y => ?_, h3⟩
      show sb A 2 y ↔ _
      have no : ∀ j, j < 64 → ¬ sb M0 1 (64 * k + j) := fun j hj h => by
        rw [hbit j hj, hz, l_0] at h; cases h
      rw [h2 y]
      constructor
      · rintro (h | ⟨j, j1, j2, _⟩)
        · exact Or.inl h
        · exact absurd j2 (no j (by omega))
      · rintro (h | ⟨j, j1, j2, _⟩)
        · exact Or.inl h
        · exact absurd j2 (no j j1)
    · rw [if_neg (fun h => hz ((lg_0 _ _).mp h)), ck_of (inL (by omega) hk)]
      cases hbq : bl (A.2 (2, 1) k) i
      · rw [if_neg (by rw [lg_0, l_tst1 _ hi, hbq]; simp)]
        refine Or.inl ⟨(nI i + 1, A), rfl, nI_inc i, fun y => ?_, h3⟩
        show sb A 2 y ↔ _
        rw [h2 y]
        constructor
        · rintro (h | ⟨j, j1, j2⟩)
          · exact Or.inl h
          · exact Or.inr ⟨j, by omega, j2⟩
        · rintro (h | ⟨j, j1, j2, j3⟩)
          · exact Or.inl h
          · by_cases e : j = i
            · subst e; rw [hbit j hi, hbq] at j2; cases j2
            · exact Or.inr ⟨j, by omega, j2, j3⟩
      · have hs1 : sb M0 1 (64 * k + i) := (hbit i hi).mpr hbq
        obtain ⟨s1, s2⟩ := hS _ (by omega) hs1
        obtain ⟨B, b1, b2, b3⟩ := lead_eq ha hb hAa hAb hnb (h3.RP hRa) (h3.RP hRb) s1 s2
        rw [if_pos (by rw [lg_0, l_tst1 _ hi, hbq]), show (64 : Int32) * nI k + nI i = nI (64 * k + i) by rw [show (64 : Int32) = nI 64 from rfl, pk_mul, nI_add], b1, bd_some]
        refine Or.inl ⟨(nI i + 1, B), rfl, nI_inc i, fun y => ?_, h3.trans b3⟩
        show sb B 2 y ↔ _
        rw [b2 y, h2 y]
        constructor
        · rintro ((h | ⟨j, j1, j2⟩) | h)
          · exact Or.inl h
          · exact Or.inr ⟨j, by omega, j2⟩
          · exact Or.inr ⟨i, by omega, hs1, h⟩
        · rintro (h | ⟨j, j1, j2, j3⟩)
          · exact Or.inl (Or.inl h)
          · by_cases e : j = i
            · subst e; exact Or.inr j3
            · exact Or.inl (Or.inr ⟨j, by omega, j2, j3⟩)
  · obtain ⟨i0, A⟩ := st
    obtain ⟨rfl, h2, h3⟩ := h
    refine ⟨(nI 64, A), ?_, h2, h3⟩
    unfold b_M_gather_164
    dsimp only
    rw [if_ge (x := 64) (B := 64) (Nat.le_refl _) (by omega) rfl]
  · show sb M 2 y ↔ _
    constructor
    · intro h; exact Or.inl h
    · rintro (h | ⟨j, h, -⟩)
      · exact h
      · omega
theorem leads_eq {M : Mm} (ha : a < 6) (hb : b < 6) (hAa : AOK na ga ea) (hAb : AOK nb gb eb) (hnb : nb ≤ 3) (hRa : RP M a na ga ea) (hRb : RP M b nb gb eb) (hS : ∀ x, x < 157504 → sb M 1 x → x < 157464 ∧ x / 19683 / 2 < na) : ∃ r, lp (b_M_gather_153 (nI a) (nI b)) (0, M) = some r ∧ ((∀ y, (sb r.2 2 y ↔ sb M 2 y ∨ ∃ x, x < 157504 ∧ sb M 1 x ∧ sx ga ea nb gb eb x y)) ∧ FL 2 M r.2) := by
  have h : ∃ r, lp (b_M_gather_153 (nI a) (nI b)) (0, M) = some r ∧ ((∀ y, (sb r.2 2 y ↔ sb M 2 y ∨ ∃ x, x < 64 * 2461 ∧ sb M 1 x ∧ sx ga ea nb gb eb x y)) ∧ FL 2 M r.2) := by
    refine lp_for 2461 (fun k st => st.1 = nI k ∧ (∀ y, (sb st.2 2 y ↔ sb M 2 y ∨ ∃ x, x < 64 * k ∧ sb M 1 x ∧ sx ga ea nb gb eb x y)) ∧ FL 2 M st.2) _ (fun k st hk h => ?_) (fun st h => ?_) (k := 0) ⟨rfl, fun y => ?_, FL.rfl⟩ (by omega) (by omega)
    · obtain ⟨i0, A⟩ := st
      obtain ⟨rfl, h2, h3⟩ := h
      have h2 : ∀ y, (sb A 2 y ↔ sb M 2 y ∨ ∃ x, x < 64 * k ∧ sb M 1 x ∧ sx ga ea nb gb eb x y) := h2
      have h3 : FL 2 M A := h3
      obtain ⟨r, r1, r2, r3⟩ := leads_in hk ha hb hAa hAb hnb hRa hRb h3 hS
      refine Or.inl ⟨(nI (k + 1), r.2), ?_, rfl, fun y => ?_, r3⟩
      · unfold b_M_gather_153
        dsimp only
        rw [if_lt (x := 2461) (B := 2461) hk (by omega) rfl, r1, bd_some, nI_inc]
      · show sb r.2 2 y ↔ _
        rw [r2 y, h2 y]
        constructor
        · rintro ((h | ⟨x, x1, x2⟩) | ⟨j, j1, j2⟩)
          · exact Or.inl h
          · exact Or.inr ⟨x, by omega, x2⟩
          · exact Or.inr ⟨64 * k + j, by omega, j2⟩
        · rintro (h | ⟨x, x1, x2⟩)
          · exact Or.inl (Or.inl h)
          · by_cases e : x < 64 * k
            · exact Or.inl (Or.inr ⟨x, e, x2⟩)
            · refine Or.inr ⟨x - 64 * k, by omega, ?_⟩
              rw [show 64 * k + (x - 64 * k) = x by omega]; exact x2
    · obtain ⟨i0, A⟩ := st
      obtain ⟨rfl, h2, h3⟩ := h
      refine ⟨(nI 2461, A), ?_, h2, h3⟩
      unfold b_M_gather_153
      dsimp only
      rw [if_ge (x := 2461) (B := 2461) (Nat.le_refl _) (by omega) rfl]
    · show sb M 2 y ↔ _
      constructor
      · intro h; exact Or.inl h
      · rintro (h | ⟨x, h, -⟩)
        · exact h
        · omega
  exact h
noncomputable def cS (M : Mm) : Nat := (List.range 157504).countP fun x => dB (sb M 0 x)
theorem cS_le (M : Mm) : cS M ≤ 157504 := by
  have := List.countP_le_length (p := fun x => dB (sb M 0 x)) (l := List.range 157504)
  rw [List.length_range] at this
  exact this
theorem cS_lt {M M' : Mm} (h : ∀ x, x < 157504 → sb M 0 x → sb M' 0 x) (hn : ∃ x, x < 157504 ∧ sb M' 0 x ∧ ¬ sb M 0 x) : cS M < cS M' := by
  obtain ⟨x, h1, h2, h3⟩ := hn
  refine countP_lt _ _ _ (fun k hk hb => dB_iff.mpr (h k (List.mem_range.mp hk) (dB_iff.mp hb))) ⟨x, List.mem_range.mpr h1, dB_iff.mpr h2, ?_⟩
  cases hb : dB (sb M 0 x)
  · rfl
  · exact absurd (dB_iff.mp hb) h3
theorem sx_lt (hAa : AOK na ga ea) {x y : Nat} (h : sx ga ea nb gb eb x y) : y < 157464 := by
  obtain ⟨l, r, hl, e1, e2⟩ := h
  have hna := hAa.1
  have hr := (hAa.2.2 _ _ _ e1).2.2
  have hN : nm (Dl nb gb eb l (d3 (x % 19683))) < 19683 := nm_lt fun j _ => Dl_le _ _ _ _ _ _
  rw [e2]
  split <;> omega
/-- the codes of all words from one state -/
theorem gather_eq {M : Mm} {fr : Nat} (ha : a < 6) (hb : b < 6) (hAa : AOK na ga ea) (hAb : AOK nb gb eb) (hnb : nb ≤ 3) (hRa : RP M a na ga ea) (hRb : RP M b nb gb eb) (hfr : fr < na) : ∃ M', m_M_gather (nI a) (nI b) (nI fr) M = some M' ∧ FGa M M' ∧ (∀ x, x < 157504 → sb M' 0 x → Sd na ga ea nb gb eb fr x) ∧ sb M' 0 (19683 * (2 * fr + 0) + nw nb gb eb []) ∧ ∀ x, x < 157504 → sb M' 0 x → ∀ y, sx ga ea nb gb eb x y → sb M' 0 y := by
  have hna := hAa.1
  obtain ⟨r0, z1, z2, z3, z4⟩ := clear_eq M
  have F0 : FGa M r0.2 := ⟨fun z _ _ => by rw [z3], z4⟩
  obtain ⟨r1, n1, n2⟩ := none_eq hb hnb (F0.RP hRb)
  have hnw := nw_lt nb gb eb []
  have hst : 19683 * (2 * fr + 0) + nw nb gb eb [] < 157464 := by omega
  obtain ⟨B, b1, b2, b3, b4⟩ := mark_eq (c := 1) (by omega) (show 19683 * (2 * fr + 0) + nw nb gb eb [] < 157504 by omega) r0.2
  have FB : FGa M B := F0.trans ⟨fun z _ _ => by rw [b3], b4 _ (cells_ne (by omega))⟩
  generalize hs0 : 19683 * (2 * fr + 0) + nw nb gb eb [] = st at hst b1 b2
  have hB0 : ∀ x, x < 157504 → ¬ sb B 0 x := fun x hx h => (z2 x hx).1 (by unfold sb at h ⊢; rw [b4 _ (cells_ne (by omega))] at h; exact h)
  have hB1 : ∀ x, x < 157504 → (sb B 1 x ↔ x = st) := fun x hx => by
    rw [b2 x]
    exact ⟨fun h => h.resolve_left (z2 x hx).2, fun h => Or.inr h⟩
  have hSt : Sd na ga ea nb gb eb fr st := by
    obtain ⟨c1, c2, c3, c4⟩ := code_at (r := fr) (f := 0) (by omega) hnw
    rw [hs0] at c1 c2
    refine ⟨hst, by rw [c1, c3]; exact hfr, [], fun l h => (by cases h), c2.symm, by rw [c1, c3]; rfl, fun h => ?_⟩
    rw [c1, c4] at h; omega
  have hlp : ∃ r, lp (b_M_gather_98 (nI a) (nI b)) (1, B) = some r ∧ (FGa M r.2 ∧ (∀ x, x < 157504 → sb r.2 0 x → Sd na ga ea nb gb eb fr x) ∧ sb r.2 0 st ∧ ∀ x, x < 157504 → sb r.2 0 x → ∀ y, sx ga ea nb gb eb x y → sb r.2 0 y) := by
    refine lp_run (fun s => FGa M s.2 ∧ (∀ x, x < 157504 → sb s.2 0 x ∨ sb s.2 1 x → Sd na ga ea nb gb eb fr x) ∧ (sb s.2 0 st ∨ sb s.2 1 st) ∧ (∀ x, x < 157504 → sb s.2 0 x → ∀ y, sx ga ea nb gb eb x y → sb s.2 0 y ∨ sb s.2 1 y) ∧ (∀ x, x < 157504 → sb s.2 1 x → ¬ sb s.2 0 x) ∧ ((s.1 = 0 ∧ ∀ x, x < 157504 → ¬ sb s.2 1 x) ∨ (s.1 = 1 ∧ ∃ x, x < 157504 ∧ sb s.2 1 x))) (fun s => (157505 - cS s.2) + (if s.1 = 0 then 0 else 1)) _ (fun s h => ?_) ⟨FB, fun x hx h => ?_, Or.inr ((hB1 st (by omega)).mpr rfl), fun x hx h => absurd h (hB0 x hx), fun x hx _ => hB0 x hx, Or.inr ⟨rfl, st, by omega, (hB1 st (by omega)).mpr rfl⟩⟩ (by show 157505 - cS B + _ < 1000000; split <;> omega)
    · obtain ⟨f, A⟩ := s
      obtain ⟨h1, h2, h3, h4, h5, h6⟩ := h
      have h1 : FGa M A := h1
      have h2 : ∀ x, x < 157504 → sb A 0 x ∨ sb A 1 x → Sd na ga ea nb gb eb fr x := h2
      have h3 : sb A 0 st ∨ sb A 1 st := h3
      have h4 : ∀ x, x < 157504 → sb A 0 x → ∀ y, sx ga ea nb gb eb x y → sb A 0 y ∨ sb A 1 y := h4
      have h5 : ∀ x, x < 157504 → sb A 1 x → ¬ sb A 0 x := h5
      unfold b_M_gather_98
      dsimp only
      rcases h6 with ⟨e0, h6⟩ | ⟨e1, h6⟩
      · have e0 : f = 0 := e0
        subst e0
        rw [if_pos rfl]
        refine Or.inr ⟨_, rfl, h1, fun x hx h => h2 x hx (Or.inl h), h3.resolve_right (h6 st (by omega)), fun x hx h y hy => ?_⟩
        have hy2 := sx_lt hAa hy
        exact (h4 x hx h y hy).resolve_right (h6 y (by omega))
      · have e1 : f = 1 := e1
        subst e1
        rw [if_neg (show ¬ (1 : Int32) = 0 by decide)]
        obtain ⟨m, m1, m2, m3, m4, m5⟩ := merge_eq A
        have m1eq : ∀ x, sb m.2 1 x ↔ sb A 1 x := fun x => by unfold sb; rw [m3]
        have Fm : FGa M m.2 := h1.trans ⟨fun z _ _ => by rw [m4], m5⟩
        obtain ⟨d, d1, d2, d3⟩ := leads_eq ha hb hAa hAb hnb (Fm.RP hRa) (Fm.RP hRb) (fun x hx h => by
          obtain ⟨s1, s2, -⟩ := h2 x hx (Or.inr ((m1eq x).mp h))
          exact ⟨s1, s2⟩)
        obtain ⟨t, t1, t2, t3, t4, t5, t6⟩ := sift_eq d.2
        rw [m1, bd_some, d1, bd_some, t1, bd_some]
        have d0 : ∀ x, sb d.2 0 x ↔ sb m.2 0 x := fun x => sb_FL d3 (by omega) x
        have t0 : ∀ x, sb t.2.2 0 x ↔ sb m.2 0 x := fun x => by
          rw [← d0 x]; unfold sb; rw [t3]
        have hd2 : ∀ y, y < 157504 → (sb d.2 2 y ↔ ∃ x, x < 157504 ∧ sb A 1 x ∧ sx ga ea nb gb eb x y) := fun y hy => by
          rw [d2 y]
          constructor
          · rintro (h | ⟨x, x1, x2, x3⟩)
            · exact absurd h (m2 y hy).2
            · exact ⟨x, x1, (m1eq x).mp x2, x3⟩
          · rintro ⟨x, x1, x2, x3⟩
            exact Or.inr ⟨x, x1, (m1eq x).mpr x2, x3⟩
        have hS0 : ∀ x, x < 157504 → (sb t.2.2 0 x ↔ sb A 0 x ∨ sb A 1 x) := fun x hx => (t0 x).trans (m2 x hx).1
        have hS1 : ∀ y, y < 157504 → (sb t.2.2 1 y ↔ (∃ x, x < 157504 ∧ sb A 1 x ∧ sx ga ea nb gb eb x y) ∧ ¬ (sb A 0 y ∨ sb A 1 y)) := fun y hy => by
          rw [t2 y hy, hd2 y hy, d0 y, (m2 y hy).1]
        refine Or.inl ⟨(t.1, t.2.2), rfl, ⟨?_, fun x hx h => ?_, ?_, fun x hx h y hy => ?_, fun x hx h => ?_, t6⟩, ?_⟩
        · exact Fm.trans ((d3.FGa (by omega)).trans ⟨fun z _ _ => by rw [t4], t5⟩)
        · rcases h with h | h
          · exact h2 x hx ((hS0 x hx).mp h)
          · obtain ⟨⟨w, w1, w2, w3⟩, -⟩ := (hS1 x hx).mp h
            exact Sd_step hAa hAb hnb (h2 w w1 (Or.inr w2)) w3
        · exact Or.inl ((hS0 st (by omega)).mpr h3)
        · have hy2 := sx_lt hAa hy
          show sb t.2.2 0 y ∨ sb t.2.2 1 y
          rw [hS0 y (by omega), hS1 y (by omega)]
          by_cases hc : sb A 0 y ∨ sb A 1 y
          · exact Or.inl hc
          · rcases (hS0 x hx).mp h with h | h
            · exact absurd (h4 x hx h y hy) hc
            · exact Or.inr ⟨⟨x, hx, h, hy⟩, hc⟩
        · rw [hS0 x hx]
          exact ((hS1 x hx).mp h).2
        · have hlt : cS A < cS t.2.2 := cS_lt (fun x hx h => (hS0 x hx).mpr (Or.inl h)) (by
            obtain ⟨x, x1, x2⟩ := h6
            exact ⟨x, x1, (hS0 x x1).mpr (Or.inr x2), h5 x x1 x2⟩)
          have := cS_le t.2.2
          show 157505 - cS t.2.2 + (if t.1 = 0 then 0 else 1) < 157505 - cS A + 1
          split <;> omega
    · rcases h with h | h
      · exact absurd h (hB0 x hx)
      · rw [(hB1 x hx).mp h]; exact hSt
  obtain ⟨r, l1, l2, l3, l4, l5⟩ := hlp
  refine ⟨r.2, ?_, l2, l3, l4, l5⟩
  unfold m_M_gather
  rw [z1, bd_some, n1, bd_some, n2]
  have e0 : (19683 : Int32) * ((2 : Int32) * nI fr) + nI (nw nb gb eb []) = nI st := by
    rw [← hs0, show (19683 : Int32) = nI 19683 from rfl, show (2 : Int32) = nI 2 from rfl, pk_mul, pk_mul, nI_add, Nat.add_zero]
  rw [e0, b1, bd_some, l1, bd_some]
end GATH
