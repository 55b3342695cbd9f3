/-! the reference's sets of numbers: mark, bit, lead -/
theorem uL_at (M : Mm) (c : Nat × Nat) (k : Nat) (v : Int64) : (uL M c k v).2 c k = v := by rw [uL_self]; exact if_pos rfl
theorem uL_off (M : Mm) (c : Nat × Nat) {k i : Nat} (v : Int64) (h : i ≠ k) : (uL M c k v).2 c i = M.2 c i := by rw [uL_self]; exact if_neg h
theorem l_tst1 (x : Int64) {k : Nat} (hk : k < 64) : ((x >>> ((nI k).toInt64 &&& 63)) &&& 1) = 1 ↔ bl x k = true := by
  constructor
  · intro h
    have h2 : bl ((x >>> ((nI k).toInt64 &&& 63)) &&& 1) 0 = bl 1 0 := by rw [h]
    rw [l_and, l_sshr k hk x (by omega), l_1] at h2
    simpa [hk] using h2
  · intro h
    refine l_ext fun i hi => ?_
    rw [l_and, l_sshr k hk x hi, l_1]
    by_cases e : i = 0
    · subst e; simp [hk, h]
    · simp [e]
def sb (M : Mm) (c x : Nat) : Prop := bl (M.2 (2, c) (x / 64)) (x % 64) = true
theorem inL {c k : Nat} (hc : c < 3) (hk : k < 2461) : inb (nI k) (lenL c) = true := by
  have : lenL c = 2461 := if_pos hc
  rw [this]
  exact vp_inb (vp_in_nI (N := 2461) hk (by omega))
theorem at_hi {x : Nat} (hx : x < 157504) : nI x >>> ((6 : Int32) &&& 31) = nI (x / 64) := sh_div (t := 6) (by omega) (by omega)
theorem at_lo {x : Nat} (hx : x < 157504) : nI x &&& (63 : Int32) = nI (x % 64) := pk_andN (by omega) 6 (by decide)
theorem mark_eq {c x : Nat} (hc : c < 3) (hx : x < 157504) (M : Mm) : ∃ M', m_M_mark c (nI x) M = some M' ∧ (∀ y, (sb M' c y ↔ sb M c y ∨ y = x)) ∧ M'.1 = M.1 ∧ ∀ c', c' ≠ (2, c) → M'.2 c' = M.2 c' := by
  refine ⟨uL M (2, c) (x / 64) (M.2 (2, c) (x / 64) ||| ((1 : Int64) <<< ((nI (x % 64)).toInt64 &&& 63))), ?_, fun y => ?_, rfl, fun c' h => uL_ne M _ _ h⟩
  · unfold m_M_mark
    rw [at_hi hx, at_lo hx, ck_of (inL hc (by omega)), ck_of (inL hc (by omega)), nI_clamp (by omega), bd_some]
  · unfold sb
    by_cases e : y / 64 = x / 64
    · rw [e, uL_at, l_or, l_bit (by omega) (by omega), Bool.or_eq_true, decide_eq_true_eq]
      constructor
      · rintro (h | h)
        · exact Or.inl h
        · exact Or.inr (by omega)
      · rintro (h | h)
        · exact Or.inl h
        · exact Or.inr (by omega)
    · rw [uL_off _ _ _ e]
      constructor
      · intro h; exact Or.inl h
      · rintro (h | h)
        · exact h
        · subst h; exact absurd rfl e
theorem bit_eq {x : Nat} (hx : x < 157504) (M : Mm) : ∃ f, m_M_bit 0 (nI x) M = some f ∧ (f = true ↔ sb M 0 x) := by
  unfold m_M_bit
  rw [at_hi hx, at_lo hx, ck_of (inL (by omega) (by omega)), nI_clamp (by omega)]
  cases hb : bl (M.2 (2, 0) (x / 64)) (x % 64)
  · rw [if_neg (by rw [lg_0, l_tst1 _ (by omega), hb]; simp)]
    refine ⟨false, rfl, fun h => (by cases h), fun h => ?_⟩
    have h : bl (M.2 (2, 0) (x / 64)) (x % 64) = true := h
    rw [hb] at h; cases h
  · rw [if_pos (by rw [lg_0, l_tst1 _ (by omega), hb])]
    exact ⟨true, rfl, fun _ => hb, fun _ => rfl⟩
theorem RP_of {M M' : Mm} {a n : Nat} {g : Nat → Bool} {e : Ed} (h : RP M a n g e) (h6 : M'.1 (1, 16) = M.1 (1, 16)) (h7 : M'.1 (1, 17) = M.1 (1, 17)) (h8 : M'.1 (1, 18) = M.1 (1, 18)) : RP M' a n g e := by
  unfold RP
  rw [h6, h7, h8]
  exact h
/-- one step among (state, flag, number), coded in one number -/
def sx (ga : Nat → Bool) (ea : Ed) (nb : Nat) (gb : Nat → Bool) (eb : Ed) (x y : Nat) : Prop := ∃ l r, l < 2 ∧ ea l (x / 19683 / 2) r = true ∧ y = 19683 * (2 * r + (if x / 19683 % 2 = 1 ∨ ga r = true then 1 else 0)) + nm (Dl nb gb eb l (d3 (x % 19683)))
section LEAD
variable {na nb : Nat} {ga gb : Nat → Bool} {ea eb : Ed} {a b : Nat}
theorem ix_eq (k f N : Nat) : (19683 : Int32) * (((2 : Int32) * nI k) + nI f) + nI N = nI (19683 * (2 * k + f) + N) := by
  rw [show (19683 : Int32) = nI 19683 from rfl, show (2 : Int32) = nI 2 from rfl, pk_mul, nI_add, pk_mul, nI_add]
theorem lead_in {M : Mm} {q f l N : Nat} (ha : a < 6) (hl : l < 2) (hA : AOK na ga ea) (hR : RP M a na ga ea) (hq : q < na) (hf : f < 2) (hN : N < 19683) : ∃ r, lp (b_M_lead_48 (nI a) (nI q) (nI f) (nI l) (nI N)) (0, M) = some r ∧ ((∀ y, (sb r.2 2 y ↔ sb M 2 y ∨ ∃ t, ea l q t = true ∧ y = 19683 * (2 * t + (if f = 1 ∨ ga t = true then 1 else 0)) + N)) ∧ r.2.1 = M.1 ∧ ∀ c', c' ≠ (2, 2) → r.2.2 c' = M.2 c') := by
  have hna := hA.1
  refine lp_for na (fun k st => st.1 = nI k ∧ (∀ y, (sb st.2 2 y ↔ sb M 2 y ∨ ∃ t, t < k ∧ ea l q t = true ∧ y = 19683 * (2 * t + (if f = 1 ∨ ga t = true then 1 else 0)) + N)) ∧ st.2.1 = M.1 ∧ ∀ c', c' ≠ (2, 2) → st.2.2 c' = M.2 c') _ (fun k st hk h => ?_) (fun st h => ?_) (k := 0) ⟨rfl, fun y => ?_, rfl, fun _ _ => rfl⟩ (by omega) (by omega)
  · obtain ⟨i0, A⟩ := st
    obtain ⟨rfl, h2, h3, h4⟩ := h
    have h2 : ∀ y, (sb A 2 y ↔ sb M 2 y ∨ ∃ t, t < k ∧ ea l q t = true ∧ y = 19683 * (2 * t + (if f = 1 ∨ ga t = true then 1 else 0)) + N) := h2
    have h3 : A.1 = M.1 := h3
    have h4 : ∀ c', c' ≠ (2, 2) → A.2 c' = M.2 c' := h4
    have hRA : RP A a na ga ea := RP_of hR (by rw [h3]) (by rw [h3]) (by rw [h3])
    have hbe := hRA.2.2 l hl q hq k (by omega)
    have hbg := hRA.2.1 k hk
    unfold b_M_lead_48
    dsimp only
    rw [ck_of (sz_in ha), nI_clamp (show a < 2 ^ 31 by omega), if_lt hk (by omega) hRA.1, to_ix, ck_of (to_in ha hl (by omega)), nI_clamp (show 8 * a + 4 * l + q < 2 ^ 31 by omega)]
    have same : ea l q k = false → (∃ s' : Int32 × Mm, some (Sum.inl (nI k + 1, A)) = (some (Sum.inl s') : Option ((Int32 × Mm) ⊕ (Int32 × Mm))) ∧ s'.1 = nI (k + 1) ∧ (∀ y, (sb s'.2 2 y ↔ sb M 2 y ∨ ∃ t, t < k + 1 ∧ ea l q t = true ∧ y = 19683 * (2 * t + (if f = 1 ∨ ga t = true then 1 else 0)) + N)) ∧ s'.2.1 = M.1 ∧ ∀ c', c' ≠ (2, 2) → s'.2.2 c' = M.2 c') := fun hE => by
      refine ⟨(nI k + 1, A), rfl, nI_inc k, fun y => ?_, h3, h4⟩
      show sb A 2 y ↔ _
      rw [h2 y]
      constructor
      · rintro (h | ⟨t, a1, a2⟩)
        · exact Or.inl h
        · exact Or.inr ⟨t, by omega, a2⟩
      · rintro (h | ⟨t, a1, a2, a3⟩)
        · exact Or.inl h
        · by_cases e : t = k
          · subst e; rw [hE] at a2; cases a2
          · exact Or.inr ⟨t, by omega, a2, a3⟩
    have mk : ea l q k = true → ∀ x, x = 19683 * (2 * k + (if f = 1 ∨ ga k = true then 1 else 0)) + N → ∃ B, m_M_mark 2 (nI x) A = some B ∧ (∃ s' : Int32 × Mm, some (Sum.inl (nI k + 1, B)) = (some (Sum.inl s') : Option ((Int32 × Mm) ⊕ (Int32 × Mm))) ∧ s'.1 = nI (k + 1) ∧ (∀ y, (sb s'.2 2 y ↔ sb M 2 y ∨ ∃ t, t < k + 1 ∧ ea l q t = true ∧ y = 19683 * (2 * t + (if f = 1 ∨ ga t = true then 1 else 0)) + N)) ∧ s'.2.1 = M.1 ∧ ∀ c', c' ≠ (2, 2) → s'.2.2 c' = M.2 c') := fun hE x hx => by
      have hx2 : x < 157504 := by
        rw [hx]
        split <;> omega
      obtain ⟨B, b1, b2, b3, b4⟩ := mark_eq (c := 2) (by omega) hx2 A
      refine ⟨B, b1, (nI k + 1, B), rfl, nI_inc k, fun y => ?_, b3.trans h3, fun c' hc => (b4 c' hc).trans (h4 c' hc)⟩
      show sb B 2 y ↔ _
      rw [b2 y, h2 y]
      constructor
      · rintro ((h | ⟨t, a1, a2⟩) | h)
        · exact Or.inl h
        · exact Or.inr ⟨t, by omega, a2⟩
        · exact Or.inr ⟨k, by omega, hE, h.trans hx⟩
      · rintro (h | ⟨t, a1, a2, a3⟩)
        · exact Or.inl (Or.inl h)
        · by_cases e : t = k
          · subst e; exact Or.inr (a3.trans hx.symm)
          · exact Or.inl (Or.inr ⟨t, by omega, a2, a3⟩)
    cases hE : ea l q k
    · rw [if_neg (by rw [b_tst1 _ (by omega), hbe, hE]; simp)]
      by_cases hf1 : nI f = 1
      · rw [if_pos hf1]
        exact Or.inl (same hE)
      · rw [if_neg hf1, ck_of (gd_in ha)]
        by_cases hgd : ((A.1 (1, 17) a >>> (nI k &&& 31)) &&& 1) = 1
        · rw [if_pos hgd]; exact Or.inl (same hE)
        · rw [if_neg hgd]; exact Or.inl (same hE)
    · rw [if_pos (by rw [b_tst1 _ (by omega), hbe, hE])]
      have e1 : (19683 : Int32) * (((2 : Int32) * nI k) + (1 : Int32)) + nI N = nI (19683 * (2 * k + 1) + N) := ix_eq k 1 N
      have e0 : (19683 : Int32) * (((2 : Int32) * nI k) + (0 : Int32)) + nI N = nI (19683 * (2 * k + 0) + N) := ix_eq k 0 N
      by_cases hf1 : f = 1
      · obtain ⟨B, b1, b2⟩ := mk hE (19683 * (2 * k + 1) + N) (by rw [if_pos (Or.inl hf1)])
        rw [if_pos (show nI f = (1 : Int32) by rw [hf1]; rfl), e1, b1, bd_some]
        exact Or.inl b2
      · rw [if_neg (show ¬ nI f = (1 : Int32) from fun h => hf1 ((nI_eq (by omega) (by decide)).mp (show nI f = nI 1 from h))), ck_of (gd_in ha)]
        cases hgk : ga k
        · obtain ⟨B, b1, b2⟩ := mk hE (19683 * (2 * k + 0) + N) (by rw [if_neg (by rw [hgk]; simp [hf1])])
          rw [if_neg (by rw [b_tst1 _ (by omega), hbg, hgk]; simp), e0, b1, bd_some]
          exact Or.inl b2
        · obtain ⟨B, b1, b2⟩ := mk hE (19683 * (2 * k + 1) + N) (by rw [if_pos (Or.inr hgk)])
          rw [if_pos (by rw [b_tst1 _ (by omega), hbg, hgk]), e1, b1, bd_some]
          exact Or.inl b2
  · obtain ⟨i0, A⟩ := st
    obtain ⟨rfl, h2, h3, h4⟩ := h
    have h3 : A.1 = M.1 := h3
    have hRA : RP A a na ga ea := RP_of hR (by rw [h3]) (by rw [h3]) (by rw [h3])
    refine ⟨(nI na, A), ?_, fun y => ?_, h3, h4⟩
    · unfold b_M_lead_48
      dsimp only
      rw [ck_of (sz_in ha), nI_clamp (show a < 2 ^ 31 by omega), if_ge (Nat.le_refl _) (by omega) hRA.1]
    · rw [h2 y]
      constructor
      · rintro (h | ⟨t, a1, a2⟩)
        · exact Or.inl h
        · exact Or.inr ⟨t, a2⟩
      · rintro (h | ⟨t, a2⟩)
        · exact Or.inl h
        · exact Or.inr ⟨t, (hA.2.2 _ _ _ a2.1).2.2, a2⟩
  · show sb M 2 y ↔ _
    constructor
    · intro h; exact Or.inl h
    · rintro (h | ⟨t, h, -⟩)
      · exact h
      · omega
/-- what reference searches change: ints of digits, longs of one set -/
def FL (c : Nat) (M M' : Mm) : Prop := (∀ z, z ≠ (1, 20) → z ≠ (1, 21) → M'.1 z = M.1 z) ∧ ∀ z, z ≠ (2, c) → M'.2 z = M.2 z
theorem FL.rfl {c : Nat} {M : Mm} : FL c M M := ⟨fun _ _ _ => Eq.refl _, fun _ _ => Eq.refl _⟩
theorem FL.trans {c : Nat} {A B C : Mm} (h1 : FL c A B) (h2 : FL c B C) : FL c A C := ⟨fun z h h' => (h2.1 z h h').trans (h1.1 z h h'), fun z h => (h2.2 z h).trans (h1.2 z h)⟩
theorem FL.RP {c : Nat} {M M' : Mm} (h : FL c M M') {a n : Nat} {g : Nat → Bool} {e : Ed} (hR : RP M a n g e) : RP M' a n g e := RP_of hR (h.1 _ (cells_ne (by omega)) (cells_ne (by omega))) (h.1 _ (cells_ne (by omega)) (cells_ne (by omega))) (h.1 _ (cells_ne (by omega)) (cells_ne (by omega)))
theorem lead_eq {M : Mm} {x : Nat} (ha : a < 6) (hb : b < 6) (hAa : AOK na ga ea) (hAb : AOK nb gb eb) (hnb : nb ≤ 3) (hRa : RP M a na ga ea) (hRb : RP M b nb gb eb) (hx : x < 157464) (hq : x / 19683 / 2 < na) : ∃ M', m_M_lead (nI a) (nI b) (nI x) M = some M' ∧ (∀ y, (sb M' 2 y ↔ sb M 2 y ∨ sx ga ea nb gb eb x y)) ∧ FL 2 M M' := by
  obtain ⟨A, a1, a2, a3⟩ := spread_eq (N := x % 19683) (Nat.mod_lt _ (by omega)) M
  have hFA : FL 2 M A := ⟨fun z h _ => a3.1 z h, fun z _ => by rw [a3.2]⟩
  have hA2 : ∀ y, sb A 2 y ↔ sb M 2 y := fun y => by unfold sb; rw [a3.2]
  have hd2 : ∀ k, d3 (x % 19683) k ≤ 2 := fun k => by unfold d3; omega
  have h : ∃ r, lp (b_M_lead_30 (nI a) (nI b) (nI (x / 19683 / 2)) (nI (x / 19683 % 2))) (0, A) = some r ∧ ((∀ y, (sb r.2 2 y ↔ sb M 2 y ∨ ∃ l t, l < 2 ∧ ea l (x / 19683 / 2) t = true ∧ y = 19683 * (2 * t + (if x / 19683 % 2 = 1 ∨ ga t = true then 1 else 0)) + nm (Dl nb gb eb l (d3 (x % 19683))))) ∧ FL 2 M r.2) := by
    refine lp_for 2 (fun k st => st.1 = nI k ∧ (∀ y, (sb st.2 2 y ↔ sb M 2 y ∨ ∃ l t, l < k ∧ ea l (x / 19683 / 2) t = true ∧ y = 19683 * (2 * t + (if x / 19683 % 2 = 1 ∨ ga t = true then 1 else 0)) + nm (Dl nb gb eb l (d3 (x % 19683))))) ∧ FL 2 M st.2 ∧ st.2.1 (1, 20) = A.1 (1, 20)) _ (fun k st hk h => ?_) (fun st h => ?_) (k := 0) ⟨rfl, fun y => ?_, hFA, rfl⟩ (by omega) (by omega)
    · obtain ⟨i0, B⟩ := st
      obtain ⟨rfl, h2, h3, h4⟩ := h
      have h2 : ∀ y, (sb B 2 y ↔ sb M 2 y ∨ ∃ l t, l < k ∧ ea l (x / 19683 / 2) t = true ∧ y = 19683 * (2 * t + (if x / 19683 % 2 = 1 ∨ ga t = true then 1 else 0)) + nm (Dl nb gb eb l (d3 (x % 19683)))) := h2
      have h3 : FL 2 M B := h3
      have h4 : B.1 (1, 20) = A.1 (1, 20) := h4
      obtain ⟨C, c1, c2⟩ := longer_num (D := d3 (x % 19683)) hb hk hAb hnb (h3.RP hRb) (fun j hj => ⟨by rw [h4]; exact a2 j hj, hd2 j⟩)
      have hFC : FL 2 B C := ⟨fun z _ h => c2.1 z h, fun z _ => by rw [c2.2]⟩
      have hNlt : nm (Dl nb gb eb k (d3 (x % 19683))) < 19683 := nm_lt fun j _ => Dl_le _ _ _ _ _ _
      obtain ⟨r, r1, r2, r3, r4⟩ := lead_in (f := x / 19683 % 2) ha hk hAa ((h3.trans hFC).RP hRa) hq (by omega) hNlt
      refine Or.inl ⟨(nI (k + 1), r.2), ?_, rfl, fun y => ?_, ?_, ?_⟩
      · unfold b_M_lead_30
        dsimp only
        rw [if_lt (x := 2) (B := 2) hk (by omega) rfl, c1, bd_some]
        dsimp only
        rw [r1, bd_some, nI_inc]
      · show sb r.2 2 y ↔ _
        have hC2 : sb C 2 y ↔ sb B 2 y := by unfold sb; rw [c2.2]
        rw [r2 y, hC2, h2 y]
        constructor
        · rintro ((h | ⟨l, t, e1, e2⟩) | ⟨t, e2⟩)
          · exact Or.inl h
          · exact Or.inr ⟨l, t, by omega, e2⟩
          · exact Or.inr ⟨k, t, by omega, e2⟩
        · rintro (h | ⟨l, t, e1, e2⟩)
          · exact Or.inl (Or.inl h)
          · by_cases e : l = k
            · subst e; exact Or.inr ⟨t, e2⟩
            · exact Or.inl (Or.inr ⟨l, t, by omega, e2⟩)
      · exact (h3.trans hFC).trans ⟨fun z _ _ => by rw [r3], r4⟩
      · show r.2.1 (1, 20) = A.1 (1, 20)
        rw [r3, c2.1 _ (cells_ne (by omega)), h4]
    · obtain ⟨i0, B⟩ := st
      obtain ⟨rfl, h2, h3, h4⟩ := h
      refine ⟨(nI 2, B), ?_, h2, h3⟩
      unfold b_M_lead_30
      dsimp only
      rw [if_ge (x := 2) (B := 2) (Nat.le_refl _) (by omega) rfl]
    · show sb A 2 y ↔ _
      rw [hA2 y]
      constructor
      · intro h; exact Or.inl h
      · rintro (h | ⟨l, t, h, -⟩)
        · exact h
        · omega
  obtain ⟨r, h1, h2, h3⟩ := h
  refine ⟨r.2, ?_, h2, h3⟩
  unfold m_M_lead
  rw [show (19683 : Int32) = nI 19683 from rfl, pk_rem (by omega) (by omega) (by omega), pk_div (by omega) (by omega) (by omega), show (2 : Int32) = nI 2 from rfl, pk_rem (by omega) (by omega) (by omega), pk_div (by omega) (by omega) (by omega), bd_some, a1, bd_some, h1, bd_some]
end LEAD
