/-! the refuter: what its table means -/
def Jb (na nb : Nat) (ga gb : Nat → Bool) (ea eb : Ed) (o P : Int32) (j : Nat) : Prop := ∃ v W, lets v ∧ Pw nb gb eb (fun _ => True) v P ∧ Pw na ga ea (fun x => bt o x = true) v W ∧ bt W j = true
def TI (na nb : Nat) (ga gb : Nat → Bool) (ea eb : Ed) (o : Int32) (M : Mm) : Prop := KI M ∧ QI M ∧ (∀ i, i < 1024 → M.1 (1, 7) i = 0 → M.1 (1, 8) i = 0) ∧ (∀ i, i < 1024 → ∀ q, q < 32 → bt (M.1 (1, 9) i) q = true → bt (M.1 (1, 8) i) q = true) ∧ (∀ i, i < 1024 → M.1 (1, 7) i ≠ 0 → ∃ v, lets v ∧ Pw nb gb eb (fun _ => True) v (M.1 (1, 7) i - 1)) ∧ ∀ i, i < 1024 → ∀ q, q < 32 → bt (M.1 (1, 8) i) q = true → Jb na nb ga gb ea eb o (M.1 (1, 7) i - 1) q
def Cn (nb : Nat) (ea eb : Ed) (M : Mm) : Prop := ∀ i, i < 1024 → ∀ s, s < 4 → bt (M.1 (1, 8) i) (8 * s + 4 + s) = true → ∀ x, x < 8 → Mt ea eb nb s x → ∃ q, x.testBit q = true ∧ Rp (M.1 (1, 7) i - 1) q
def Pd (na nb : Nat) (ga gb : Nat → Bool) (ea eb : Ed) (M : Mm) (i0 : Nat) (W : Int32) (k : Nat) : Prop := ∀ i, i < 1024 → ∀ j, j < 32 → bt (M.1 (1, 8) i) j = true → bt (M.1 (1, 9) i) j = false → ∀ l, l < 2 → (i = i0 ∧ bt W j = true ∧ k ≤ l) ∨ ∀ P', Lg nb gb eb l (M.1 (1, 7) i - 1) P' → ∀ j', j' < 32 → ls na ga ea l j j' → ∃ i', i' < 1024 ∧ M.1 (1, 7) i' = P' + 1 ∧ bt (M.1 (1, 8) i') j' = true
def Mo (M M' : Mm) : Prop := (∀ i, i < 1024 → M'.1 (1, 7) i = M.1 (1, 7) i ∨ M.1 (1, 7) i = 0) ∧ ∀ i, i < 1024 → ∀ q, bt (M.1 (1, 8) i) q = true → bt (M'.1 (1, 8) i) q = true
def Dn (M : Mm) (i q : Nat) : Bool := bt (M.1 (1, 8) i) q && !bt (M.1 (1, 9) i) q
theorem Mo.rfl {M : Mm} : Mo M M := ⟨fun _ _ => Or.inl (Eq.refl _), fun _ _ _ h => h⟩
theorem Mo.trans {A B C : Mm} (h1 : Mo A B) (h2 : Mo B C) : Mo A C := ⟨fun i hi => by
  rcases h1.1 i hi with e | e
  · rcases h2.1 i hi with e2 | e2
    · exact Or.inl (e2.trans e)
    · exact Or.inr (e.symm.trans e2)
  · exact Or.inr e, fun i hi q h => h2.2 i hi q (h1.2 i hi q h)⟩
section REFU
variable {na nb : Nat} {ga gb : Nat → Bool} {ea eb : Ed} {o : Int32}
theorem Jb_step {M : Mm} {i : Nat} (hi : i < 7) (hAa : AOK na ga ea) (hCa : CP M i na ga ea) {P P' : Int32} {l j j' : Nat} (hl : l < 2) (hj : j < 32) (hj' : j' < 32) (h : Jb na nb ga gb ea eb o P j) (hP : Lg nb gb eb l P P') (hs : ls na ga ea l j j') : Jb na nb ga gb ea eb o P' j' := by
  obtain ⟨v, W, h1, h2, h3, h4⟩ := h
  obtain ⟨W', -, h5, h6⟩ := longer_eq hi hAa hCa W hl
  have hW : Lg na ga ea l W W' := ⟨h5, h6⟩
  refine ⟨v ++ [l], W', fun k hk => ?_, Lg_word h2 hP, Lg_word h3 hW, (Lg_bits hW hj').mpr ⟨j, hj, h4, hs⟩⟩
  rcases List.mem_append.mp hk with e | e
  · exact h1 k e
  · rw [List.mem_singleton.mp e]; exact hl
theorem offer_TI {M : Mm} (hAb : AOK nb gb eb) (hnb : nb ≤ 3) (hT : TI na nb ga gb ea eb o M) {v : List Nat} {P W : Int32} (hv : lets v) (hP : Pw nb gb eb (fun _ => True) v P) (hW : ∀ q, q < 32 → bt W q = true → Jb na nb ga gb ea eb o P q) : ∃ a M', m_R_offer P W M = some (a, M') ∧ TI na nb ga gb ea eb o M' ∧ Frm uO M M' ∧ (∀ q, q < 32 → bt a q = true → bt W q = true) ∧ (∃ i, i < 1024 ∧ M'.1 (1, 7) i = P + 1 ∧ ∀ q, q < 32 → bt W q = true → bt (M'.1 (1, 8) i) q = true) ∧ Mo M M' ∧ (∀ i, i < 1024 → ∀ q, q < 32 → Dn M' i q = Dn M i q) ∧ ∀ i, i < 1024 → ∀ q, q < 32 → bt (M'.1 (1, 8) i) q = true → bt (M.1 (1, 8) i) q = true ∨ (M'.1 (1, 7) i = P + 1 ∧ bt a q = true) := by
  obtain ⟨t1, t2, t3, t4, t5, t6⟩ := hT
  obtain ⟨Ls, l1, l2⟩ := pass_few hAb hnb
  obtain ⟨i, a, M', hi, c1, c2, c3, c4, c5, c6, c7, c8, c9, c10, c11, c12⟩ := offer_eq t1 t2 l1 (fun i hi h0 => by
    obtain ⟨w, w1, w2⟩ := t5 i hi h0
    exact l2 w _ w1 w2) (Pw_p1 hnb hP) W
  have b8 : ∀ q, q < 32 → bt (M'.1 (1, 8) i) q = (bt (M.1 (1, 8) i) q || bt a q) := fun q hq => by rw [c8, b_or]
  have b9 : ∀ q, q < 32 → bt (M'.1 (1, 9) i) q = (bt (M.1 (1, 9) i) q || bt a q) := fun q hq => by rw [c10, b_or]
  have aW : ∀ q, q < 32 → bt a q = true → bt W q = true := fun q hq h => by
    rw [c7 q hq, Bool.and_eq_true] at h; exact h.1
  have p1 : M'.1 (1, 7) i - 1 = P := by rw [c4, add1_sub]
  have hK0 : ∀ q, q < 32 → bt (M.1 (1, 8) i) q = true → M.1 (1, 7) i = P + 1 := fun q _ h => by
    rcases c6 with e | e
    · rw [t3 i hi e, b_0] at h; cases h
    · exact e
  refine ⟨a, M', c1, ⟨c2, c3, fun k hk h0 => ?_, fun k hk q hq h => ?_, fun k hk h0 => ?_, fun k hk q hq h => ?_⟩, c12, aW, ⟨i, hi, c4, fun q hq h => ?_⟩, ⟨fun k hk => ?_, fun k hk q h => ?_⟩, fun k hk q hq => ?_, fun k hk q hq h => ?_⟩
  · by_cases e : k = i
    · subst e; rw [c4] at h0; exact absurd h0 (Pw_p1 hnb hP)
    · rw [c9 k e]; rw [c5 k e] at h0; exact t3 k hk h0
  · by_cases e : k = i
    · subst e
      rw [b9 q hq, Bool.or_eq_true] at h
      rw [b8 q hq, Bool.or_eq_true]
      exact h.imp (t4 k hk q hq) id
    · rw [c9 k e]; rw [c11 k e] at h; exact t4 k hk q hq h
  · by_cases e : k = i
    · subst e; rw [p1]; exact ⟨v, hv, hP⟩
    · rw [c5 k e] at h0 ⊢; exact t5 k hk h0
  · by_cases e : k = i
    · subst e
      rw [p1]
      rw [b8 q hq, Bool.or_eq_true] at h
      rcases h with h | h
      · have := t6 k hk q hq h
        rw [hK0 q hq h, add1_sub] at this
        exact this
      · exact hW q hq (aW q hq h)
    · rw [c9 k e] at h; rw [c5 k e]; exact t6 k hk q hq h
  · rw [b8 q hq, c7 q hq, h]
    cases bt (M.1 (1, 8) i) q <;> rfl
  · by_cases e : k = i
    · subst e
      rcases c6 with e2 | e2
      · exact Or.inr e2
      · exact Or.inl (by rw [c4, e2])
    · exact Or.inl (c5 k e)
  · by_cases e : k = i
    · subst e; rw [c8, b_or, h]; rfl
    · rw [c9 k e]; exact h
  · unfold Dn
    by_cases e : k = i
    · subst e
      rw [b8 q hq, b9 q hq, c7 q hq]
      have := t4 k hk q hq
      cases h8 : bt (M.1 (1, 8) k) q
      · cases h9 : bt (M.1 (1, 9) k) q
        · cases bt W q <;> rfl
        · rw [this h9] at h8; cases h8
      · cases bt W q <;> cases bt (M.1 (1, 9) k) q <;> rfl
    · rw [c9 k e, c11 k e]
  · by_cases e : k = i
    · subst e
      rw [b8 q hq, Bool.or_eq_true] at h
      exact h.imp id fun h => ⟨c4, h⟩
    · rw [c9 k e] at h; exact Or.inl h
/-- the search for a meeting that the passage's repetition misses -/
theorem refW_eq {M : Mm} (hM : MtOK ea eb nb M 11) (P a : Int32) : ∃ b, m_R_refutesWith P a M = some b ∧ (b = true ↔ ∃ s, s < 4 ∧ bt a (8 * s + 4 + s) = true ∧ ∃ x, x < 8 ∧ Mt ea eb nb s x ∧ ¬ ∃ q, x.testBit q = true ∧ Rp P q) := by
  have h1 : ∃ r, lp (b_R_refutesWith_5 a M) (0, 0) = some r ∧ ∀ x, x < 32 → (bt r.1 x = true ↔ ∃ s, s < 4 ∧ bt a (8 * s + 4 + s) = true ∧ Mt ea eb nb s x) := by
    refine lp_for 4 (fun k s => s.2 = nI k ∧ ∀ x, x < 32 → (bt s.1 x = true ↔ ∃ s, s < k ∧ bt a (8 * s + 4 + s) = true ∧ Mt ea eb nb s x)) _ (fun k s hk h => ?_) (fun s h => ?_) (k := 0) ⟨rfl, fun x hx => ?_⟩ (by omega) (by omega)
    · obtain ⟨c, i0⟩ := s
      obtain ⟨rfl, h2⟩ := h
      have h2 : ∀ x, x < 32 → (bt c x = true ↔ ∃ s, s < k ∧ bt a (8 * s + 4 + s) = true ∧ Mt ea eb nb s x) := h2
      unfold b_R_refutesWith_5
      dsimp only
      rw [if_lt (x := 4) (B := 4) hk (by omega) rfl, goodEnds_eq, bd_some]
      have hbt : bt (gn a k) k = bt a (8 * k + 4 + k) := by rw [bt_gn a hk]; simp [hk]
      cases hb : bt a (8 * k + 4 + k)
      · rw [if_pos (by rw [b_tst _ (by omega), hbt, hb])]
        refine Or.inl ⟨(c, nI k + 1), rfl, nI_inc k, fun x hx => ?_⟩
        show bt c x = true ↔ _
        rw [h2 x hx]
        constructor
        · rintro ⟨s, a1, a2, a3⟩
          exact ⟨s, by omega, a2, a3⟩
        · rintro ⟨s, a1, a2, a3⟩
          by_cases e : s = k
          · subst e; rw [hb] at a2; cases a2
          · exact ⟨s, by omega, a2, a3⟩
      · rw [if_neg (by rw [b_tst _ (by omega), hbt, hb]; simp), ck_of (in11 hk), nI_clamp (by omega), bd_some]
        refine Or.inl ⟨(c ||| M.1 (1, 11) k, nI k + 1), rfl, nI_inc k, fun x hx => ?_⟩
        show bt (c ||| M.1 (1, 11) k) x = true ↔ _
        rw [b_or, Bool.or_eq_true, h2 x hx, show (bt (M.1 (1, 11) k) x = true) = bM M 11 k x from rfl, hM k hk x hx]
        constructor
        · rintro (⟨s, a1, a2, a3⟩ | a3)
          · exact ⟨s, by omega, a2, a3⟩
          · exact ⟨k, by omega, hb, a3⟩
        · rintro ⟨s, a1, a2, a3⟩
          by_cases e : s = k
          · subst e; exact Or.inr a3
          · exact Or.inl ⟨s, by omega, a2, a3⟩
    · obtain ⟨c, i0⟩ := s
      obtain ⟨rfl, h2⟩ := h
      refine ⟨(c, nI 4), ?_, h2⟩
      unfold b_R_refutesWith_5
      dsimp only
      rw [if_ge (x := 4) (B := 4) (Nat.le_refl 4) (by omega) rfl]
    · show bt 0 x = true ↔ _
      rw [b_0]
      constructor
      · intro h; cases h
      · rintro ⟨s, h, -⟩; omega
  obtain ⟨r, h1, h2⟩ := h1
  unfold m_R_refutesWith
  rw [h1, bd_some]
  by_cases h0 : r.1 = 0
  · rw [if_pos h0]
    refine ⟨false, rfl, fun h => (by cases h), fun ⟨s, hs, a1, x, hx, a2, _⟩ => ?_⟩
    have := (h2 x (by omega)).mpr ⟨s, hs, a1, a2⟩
    rw [h0, b_0] at this
    cases this
  · rw [if_neg h0]
    obtain ⟨t, t1, t2⟩ := takenRepeated_eq P
    rw [t1, bd_some]
    have tst : ∀ x, x < 8 → ((nI x &&& t) = 0 ↔ ¬ ∃ q, x.testBit q = true ∧ Rp P q) := fun x hx => by
      rw [b_eq0]
      constructor
      · rintro h ⟨q, a1, a2⟩
        have hq : q < 4 := by
          obtain ⟨c, y, z, -⟩ := a2
          exact (pl_lt (fun _ _ h => rE_lt h) z).1
        have := h q (by omega)
        rw [b_and, bt_nI (by omega), a1, (t2 q).mpr ⟨hq, a2⟩] at this
        cases this
      · intro h q hq
        cases hb : bt (nI x &&& t) q
        · rfl
        · rw [b_and, Bool.and_eq_true, bt_nI (by omega)] at hb
          exact absurd ⟨q, hb.1, ((t2 q).mp hb.2).2⟩ h
    have h3 : ∃ r', lp (b_R_refutesWith_56 r.1 t) 0 = some r' ∧ ((r' = .inr true ∧ ∃ x, x < 8 ∧ bt r.1 x = true ∧ ¬ ∃ q, x.testBit q = true ∧ Rp P q) ∨ (∃ s, r' = .inl s ∧ ∀ x, x < 8 → bt r.1 x = true → ∃ q, x.testBit q = true ∧ Rp P q)) := by
      refine lp_for 8 (fun k s => s = nI k ∧ ∀ x, x < k → bt r.1 x = true → ∃ q, x.testBit q = true ∧ Rp P q) _ (fun k s hk h => ?_) (fun s h => ?_) (k := 0) ⟨rfl, fun x hx => by omega⟩ (by omega) (by omega)
      · obtain ⟨rfl, h4⟩ := h
        unfold b_R_refutesWith_56
        rw [if_lt (x := 8) (B := 8) hk (by omega) rfl]
        have nx : (bt r.1 k = true → ∃ q, k.testBit q = true ∧ Rp P q) → ∀ x, x < k + 1 → bt r.1 x = true → ∃ q, x.testBit q = true ∧ Rp P q := fun hn x hx hb => by
          by_cases e : x = k
          · subst e; exact hn hb
          · exact h4 x (by omega) hb
        cases hb : bt r.1 k
        · rw [if_pos ((b_tst _ (by omega)).mpr hb)]
          exact Or.inl ⟨_, rfl, nI_inc k, nx (fun h => by rw [hb] at h; cases h)⟩
        · rw [if_neg (by rw [b_tst _ (by omega), hb]; simp)]
          by_cases hz : (nI k &&& t) = 0
          · rw [if_pos hz]
            exact Or.inr ⟨_, rfl, Or.inl ⟨rfl, k, hk, hb, (tst k hk).mp hz⟩⟩
          · rw [if_neg hz]
            exact Or.inl ⟨_, rfl, nI_inc k, nx fun _ => Classical.byContradiction fun hn => hz ((tst k hk).mpr hn)⟩
      · obtain ⟨rfl, h4⟩ := h
        refine ⟨.inl (nI 8), ?_, Or.inr ⟨_, rfl, h4⟩⟩
        unfold b_R_refutesWith_56
        rw [if_ge (x := 8) (B := 8) (Nat.le_refl 8) (by omega) rfl]
    obtain ⟨r', h3, ⟨rfl, x, hx, a1, a2⟩ | ⟨s, rfl, h4⟩⟩ := h3
    · rw [h3, bd_some]
      refine ⟨true, rfl, fun _ => ?_, fun _ => rfl⟩
      obtain ⟨s, s1, s2, s3⟩ := (h2 x (by omega)).mp a1
      exact ⟨s, s1, s2, x, hx, s3, a2⟩
    · rw [h3, bd_some]
      refine ⟨false, rfl, fun h => (by cases h), fun ⟨s, hs, a1, x, hx, a2, a3⟩ => ?_⟩
      exact absurd (h4 x hx ((h2 x (by omega)).mpr ⟨s, hs, a1, a2⟩)) a3
theorem CP_uO {M M' : Mm} {j n : Nat} {g : Nat → Bool} {e : Ed} (hj : j < 6) (h : CP M j n g e) (hF : Frm uO M M') : CP M' j n g e := CP_frm h hF (by rintro (h | h | h | h | h) <;> cases h) (by rintro (h | h | h | h | h) <;> cases h <;> omega)
theorem MtOK_uO {M M' : Mm} (h : MtOK ea eb nb M 11) (hF : Frm uO M M') : MtOK ea eb nb M' 11 := by
  have e : M'.1 (1, 11) = M.1 (1, 11) := hF.1 _ (by rintro (h | h | h | h | h) <;> cases h)
  unfold MtOK bM
  rw [e]
  exact h
/-- both letters of one turn -/
theorem turn_in {M : Mm} {i j i0 : Nat} {P W : Int32} (hi : i < 6) (hj : j < 6) (hAa : AOK na ga ea) (hAb : AOK nb gb eb) (hnb : nb ≤ 3) (hCa : CP M i na ga ea) (hCb : CP M j nb gb eb) (hMt : MtOK ea eb nb M 11) (hT : TI na nb ga gb ea eb o M) (hCn : Cn nb ea eb M) (hPd : Pd na nb ga gb ea eb M i0 W 0) (hi0 : i0 < 1024) (hK : M.1 (1, 7) i0 = P + 1) (hP1 : P + 1 ≠ 0) (hW : ∀ q, q < 32 → bt W q = true → bt (M.1 (1, 8) i0) q = true) : ∃ r, lp (b_R_refutes_96 i j P W) (0, M) = some r ∧ ((∃ B, r = .inr (true, B) ∧ Frm uO M B ∧ Df ea ga eb gb) ∨ (∃ s B, r = .inl (s, B) ∧ Frm uO M B ∧ TI na nb ga gb ea eb o B ∧ Cn nb ea eb B ∧ Pd na nb ga gb ea eb B i0 W 2 ∧ Mo M B ∧ ∀ k, k < 1024 → ∀ q, q < 32 → Dn B k q = Dn M k q)) := by
  refine lp_for 2 (fun k s => s.1 = nI k ∧ Frm uO M s.2 ∧ TI na nb ga gb ea eb o s.2 ∧ Cn nb ea eb s.2 ∧ Pd na nb ga gb ea eb s.2 i0 W k ∧ Mo M s.2 ∧ ∀ k, k < 1024 → ∀ q, q < 32 → Dn s.2 k q = Dn M k q) _ (fun k s hk h => ?_) (fun s h => ?_) (k := 0) ⟨rfl, Frm.rfl, hT, hCn, hPd, Mo.rfl, fun _ _ _ _ => rfl⟩ (by omega) (by omega)
  · obtain ⟨x, A⟩ := s
    obtain ⟨rfl, h2, h3, h4, h5, h6, h7⟩ := h
    have h2 : Frm uO M A := h2
    have h3 : TI na nb ga gb ea eb o A := h3
    have h4 : Cn nb ea eb A := h4
    have h5 : Pd na nb ga gb ea eb A i0 W k := h5
    have h6 : Mo M A := h6
    have h7 : ∀ k, k < 1024 → ∀ q, q < 32 → Dn A k q = Dn M k q := h7
    have cA := CP_uO hi hCa h2
    have cB := CP_uO hj hCb h2
    have hKA : A.1 (1, 7) i0 = P + 1 := by
      rcases h6.1 i0 hi0 with e | e
      · rw [e, hK]
      · rw [hK] at e; exact absurd e hP1
    obtain ⟨v, v1, v2⟩ := h3.2.2.2.2.1 i0 hi0 (by rw [hKA]; exact hP1)
    rw [hKA, add1_sub] at v2
    obtain ⟨P', p1, p2, p3⟩ := longer_eq (show j < 7 by omega) hAb cB P hk
    have lP : Lg nb gb eb k P P' := ⟨p2, p3⟩
    obtain ⟨W', w1, w2, w3⟩ := longer_eq (show i < 7 by omega) hAa cA W hk
    have lW : Lg na ga ea k W W' := ⟨w2, w3⟩
    have hP' := Lg_word v2 lP
    have hJ : ∀ q, q < 32 → bt W' q = true → Jb na nb ga gb ea eb o P' q := fun q hq hb => by
      obtain ⟨j0, j1, j2, j3⟩ := (Lg_bits lW hq).mp hb
      have j4 := h3.2.2.2.2.2 i0 hi0 j0 j1 (h6.2 i0 hi0 j0 (hW j0 j1 j2))
      rw [hKA, add1_sub] at j4
      exact Jb_step (show i < 7 by omega) hAa cA hk j1 hq j4 lP j3
    obtain ⟨a, B, c1, c2, c3, c4, ⟨iS, d1, d2, d3⟩, c6, c7, c8⟩ := offer_TI hAb hnb h3 (fun l hl => by
      rcases List.mem_append.mp hl with e | e
      · exact v1 l e
      · rw [List.mem_singleton.mp e]; exact hk) hP' hJ
    have hMB : MtOK ea eb nb B 11 := MtOK_uO hMt (h2.trans c3)
    obtain ⟨b, b1, b2⟩ := refW_eq hMB P' a
    unfold b_R_refutes_96
    dsimp only
    rw [if_lt (x := 2) (B := 2) hk (by omega) rfl, p1, bd_some, w1, bd_some, c1, bd_some]
    dsimp only
    rw [b1, bd_some]
    cases b with
    | true =>
      rw [if_neg (by decide)]
      refine Or.inr ⟨_, rfl, Or.inl ⟨B, rfl, h2.trans c3, ?_⟩⟩
      obtain ⟨s, s1, s2, y, y1, y2, y3⟩ := b2.mp rfl
      obtain ⟨v', W2, z1, z2, z3, z4⟩ := hJ _ (by omega) (c4 _ (by omega) s2)
      rw [← rG_bt s1 s1] at z4
      obtain ⟨-, -, z5⟩ := (z3.2 s s).mp z4
      obtain ⟨u, u1, u2⟩ := y2
      refine ⟨s, u, v', u1, z5, fun ht => y3 ?_⟩
      have := (Tk_set hAb hnb z2).mp ht
      rw [u2] at this
      exact this
    | false =>
      rw [if_pos (show bI false = 0 from rfl)]
      have hKB : B.1 (1, 7) i0 = P + 1 := by
        rcases c6.1 i0 hi0 with e | e
        · rw [e, hKA]
        · rw [hKA] at e; exact absurd e hP1
      refine Or.inl ⟨(nI k + 1, B), rfl, nI_inc k, h2.trans c3, c2, fun i1 hi1 s hs hb x hx hm => ?_, fun i1 hi1 j1 hj1 e8 e9 l hl => ?_, h6.trans c6, fun k1 hk1 q hq => (c7 k1 hk1 q hq).trans (h7 k1 hk1 q hq)⟩
      · rcases c8 i1 hi1 _ (by omega) hb with e | ⟨e, e2⟩
        · have := h4 i1 hi1 s hs e x hx hm
          rcases c6.1 i1 hi1 with e3 | e3
          · rw [e3]; exact this
          · rw [h3.2.2.1 i1 hi1 e3, b_0] at e; cases e
        · rw [e, add1_sub]
          apply Classical.byContradiction
          intro hn
          have := b2.mpr ⟨s, hs, e2, x, hx, hm, hn⟩
          cases this
      · have hd := c7 i1 hi1 j1 hj1
        unfold Dn at hd
        rw [e8, e9] at hd
        have hd : true = (bt (A.1 (1, 8) i1) j1 && !bt (A.1 (1, 9) i1) j1) := hd
        have hd := hd.symm
        rw [Bool.and_eq_true, Bool.not_eq_true'] at hd
        have hK1 : B.1 (1, 7) i1 = A.1 (1, 7) i1 := by
          rcases c6.1 i1 hi1 with e3 | e3
          · exact e3
          · rw [h3.2.2.1 i1 hi1 e3, b_0] at hd; cases hd.1
        rcases h5 i1 hi1 j1 hj1 hd.1 hd.2 l hl with ⟨f1, f2, f3⟩ | f
        · by_cases e : l = k
          · subst e
            refine Or.inr fun P2 l2 j2 hj2 l3 => ?_
            subst f1
            rw [hKB, add1_sub] at l2
            rw [Lg_uniq l2 lP]
            exact ⟨iS, d1, d2, d3 j2 hj2 ((Lg_bits lW hj2).mpr ⟨j1, hj1, f2, l3⟩)⟩
          · exact Or.inl ⟨f1, f2, by omega⟩
        · refine Or.inr fun P2 l2 j2 hj2 l3 => ?_
          rw [hK1] at l2
          obtain ⟨i2, g1, g2, g3⟩ := f P2 l2 j2 hj2 l3
          refine ⟨i2, g1, ?_, c6.2 i2 g1 j2 g3⟩
          rcases c6.1 i2 g1 with e3 | e3
          · rw [e3, g2]
          · rw [h3.2.2.1 i2 g1 e3, b_0] at g3; cases g3
  · obtain ⟨x, A⟩ := s
    obtain ⟨rfl, h2, h3, h4, h5, h6, h7⟩ := h
    refine ⟨.inl (nI 2, A), ?_, Or.inr ⟨_, A, rfl, h2, h3, h4, h5, h6, h7⟩⟩
    unfold b_R_refutes_96
    dsimp only
    rw [if_ge (x := 2) (B := 2) (Nat.le_refl 2) (by omega) rfl]
end REFU
