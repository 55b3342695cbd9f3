/-! the memory's frames; the class's edits of one automaton -/
def Frm (S : Nat × Nat → Prop) (M M' : Mm) : Prop := (∀ c, ¬ S c → M'.1 c = M.1 c) ∧ M'.2 = M.2
theorem Frm.rfl {S : Nat × Nat → Prop} {M : Mm} : Frm S M M := ⟨fun _ _ => Eq.refl _, Eq.refl _⟩
theorem Frm.trans {S : Nat × Nat → Prop} {A B C : Mm} (h1 : Frm S A B) (h2 : Frm S B C) : Frm S A C := ⟨fun c h => (h2.1 c h).trans (h1.1 c h), h2.2.trans h1.2⟩
theorem Frm.mono {S T : Nat × Nat → Prop} {A B : Mm} (h : Frm S A B) (hst : ∀ c, S c → T c) : Frm T A B := ⟨fun c hc => h.1 c (fun hs => hc (hst c hs)), h.2⟩
theorem Frm.uI {S : Nat × Nat → Prop} (M : Mm) {c : Nat × Nat} (k : Nat) (v : Int32) (h : S c) : Frm S M (uI M c k v) := ⟨fun c' hc => uI_ne M k v (fun e => hc (by rw [e]; exact h)), Eq.refl _⟩
theorem uI_at (M : Mm) (c : Nat × Nat) (k : Nat) (v : Int32) : (uI M c k v).1 c k = v := by rw [uI_self]; exact pk_us
theorem uI_off (M : Mm) (c : Nat × Nat) {k i : Nat} (v : Int32) (h : i ≠ k) : (uI M c k v).1 c i = M.1 c i := by rw [uI_self]; exact pk_un h
theorem lenI_le (c : Nat) : lenI c ≤ 1024 := by
  unfold lenI
  repeat' split
  all_goals omega
theorem fill_eq (c : Nat) (v : Int32) (M : Mm) : ∃ M', m_Y_fill c v M = some M' ∧ (∀ i, i < lenI c → M'.1 (1, c) i = v) ∧ Frm (fun x => x = (1, c)) M M' := by
  have hl := lenI_le c
  have h : ∃ r, lp (b_Y_fill_5 c v (Int32.ofNat (lenI c))) (0, M) = some r ∧ ((∀ i, i < lenI c → r.2.1 (1, c) i = v) ∧ Frm (fun x => x = (1, c)) M r.2) := by
    refine lp_for (lenI c) (fun k s => s.1 = nI k ∧ (∀ i, i < k → s.2.1 (1, c) i = v) ∧ Frm (fun x => x = (1, c)) M s.2) _ (fun k s hk h => ?_) (fun s h => ?_) (k := 0) ⟨rfl, fun i hi => by omega, Frm.rfl⟩ (by omega) (by omega)
    · obtain ⟨i0, A⟩ := s
      obtain ⟨rfl, h2, h3⟩ := h
      refine Or.inl ⟨(nI (k + 1), uI A (1, c) k v), ?_, rfl, fun i hi => ?_, h3.trans (Frm.uI A k v rfl)⟩
      · unfold b_Y_fill_5
        show (if nI (lenI c) ≤ nI k then _ else _) = _
        rw [if_lt hk (by omega) rfl, ck_of (vp_inb (vp_in_nI hk (by omega))), nI_clamp (by omega), bd_some, nI_inc]
      · by_cases e : i = k
        · subst e; exact uI_at A _ _ _
        · show (uI A (1, c) k v).1 (1, c) i = v
          rw [uI_off A _ _ e]
          exact h2 i (by omega)
    · obtain ⟨i0, A⟩ := s
      obtain ⟨rfl, h2, h3⟩ := h
      refine ⟨(nI (lenI c), A), ?_, h2, h3⟩
      unfold b_Y_fill_5
      show (if nI (lenI c) ≤ nI (lenI c) then _ else _) = _
      rw [if_ge (Nat.le_refl _) (by omega) rfl]
  obtain ⟨r, h1, h2, h3⟩ := h
  refine ⟨r.2, ?_, h2, h3⟩
  unfold m_Y_fill
  rw [h1, bd_some]
/-- the cells of automaton j -/
def uA (j : Nat) (c : Nat × Nat) : Prop := c = (0, j) ∨ c = (1, j)
theorem CP_of {M M' : Mm} {j n : Nat} {g : Nat → Bool} {e : Ed} (h : CP M j n g e) (h0 : M'.1 (0, j) = M.1 (0, j)) (h1 : M'.1 (1, j) = M.1 (1, j)) : CP M' j n g e := by
  unfold CP
  rw [h0, h1]
  exact h
theorem CP_frm {S : Nat × Nat → Prop} {M M' : Mm} {j n : Nat} {g : Nat → Bool} {e : Ed} (h : CP M j n g e) (hF : Frm S M M') (h0 : ¬ S (0, j)) (h1 : ¬ S (1, j)) : CP M' j n g e := CP_of h (hF.1 _ h0) (hF.1 _ h1)
def noE : Ed := fun _ _ _ => false
def noG : Nat → Bool := fun _ => false
theorem wipe_eq {j : Nat} (hj : j < 7) (M : Mm) : ∃ M', m_A_wipe j M = some M' ∧ CP M' j 0 noG noE ∧ Frm (uA j) M M' := by
  obtain ⟨A, h1, h2, h3⟩ := fill_eq j 0 (uI (uI M (0, j) 0 0) (0, j) 1 0)
  rw [lenI_fo hj] at h2
  have hne : ¬ ((0, j) = ((1, j) : Nat × Nat)) := by intro h; cases h
  refine ⟨A, ?_, ⟨?_, fun q hq => ?_, fun l hl t ht q hq => ?_⟩, ?_⟩
  · unfold m_A_wipe
    rw [bd_some, bd_some, h1, bd_some]
  · rw [h3.1 (0, j) hne, uI_off _ _ _ (by omega), uI_at]; rfl
  · rw [h3.1 (0, j) hne, uI_at]
    exact b_0 q
  · rw [h2 _ (by omega), b_0]
    constructor
    · intro h; cases h
    · rintro ⟨s, -, -, h⟩; cases h
  · exact ((Frm.uI M 0 0 (Or.inl rfl)).trans (Frm.uI _ 1 0 (Or.inl rfl))).trans (h3.mono fun c hc => Or.inr hc)
def addG (g : Nat → Bool) (n : Nat) (b : Bool) : Nat → Bool := fun q => g q || (decide (q = n) && b)
theorem addState_eq {M : Mm} {j n : Nat} {g : Nat → Bool} {e : Ed} (hC : CP M j n g e) (hn : n < 4) (b : Bool) : ∃ M', m_A_addState j b M = some (nI n, M') ∧ CP M' j (n + 1) (addG g n b) e ∧ Frm (uA j) M M' := by
  have hne : ¬ ((1, j) = ((0, j) : Nat × Nat)) := by intro h; cases h
  unfold m_A_addState
  rw [bd_some]
  cases b with
  | false =>
    rw [if_pos (show bI false = 0 from rfl)]
    refine ⟨_, by rw [hC.1], ⟨?_, fun q hq => ?_, fun l hl t ht q hq => ?_⟩, Frm.uI M _ _ (Or.inl rfl)⟩
    · rw [uI_at]; exact nI_inc n
    · rw [uI_off _ _ _ (by omega), hC.2.1 q hq]
      simp [addG]
    · rw [uI_ne M _ _ hne]
      exact hC.2.2 l hl t ht q hq
  | true =>
    rw [if_neg (by decide), bd_some]
    refine ⟨_, by rw [hC.1], ⟨?_, fun q hq => ?_, fun l hl t ht q hq => ?_⟩, (Frm.uI M _ _ (Or.inl rfl)).trans (Frm.uI _ _ _ (Or.inl rfl))⟩
    · rw [uI_off _ _ _ (by omega), uI_at]; exact nI_inc n
    · rw [uI_at, uI_off _ _ _ (by omega), b_or, b_bit (by omega), hC.2.1 q hq]
      simp [addG]
    · rw [uI_ne _ _ _ hne, uI_ne M _ _ hne]
      exact hC.2.2 l hl t ht q hq
theorem bt_nI {k : Nat} (hk : k < 2 ^ 32) (i : Nat) : bt (nI k) i = k.testBit i := by
  unfold bt
  have := pk_tn hk
  rw [BitVec.getLsbD, this]
def addE (e : Ed) (l f t : Nat) : Ed := fun l' p q => e l' p q || (decide (l' = l) && (decide (p = f) && decide (q = t)))
theorem join_eq {M : Mm} {j n : Nat} {g : Nat → Bool} {e : Ed} (hj : j < 7) (hC : CP M j n g e) {l f t : Nat} (hl : l < 2) (hf : f < 4) (ht : t < 4) : ∃ M', m_A_join j (nI f) (nI l) (nI t) M = some M' ∧ CP M' j n g (addE e l f t) ∧ Frm (uA j) M M' := by
  have hne : ¬ ((0, j) = ((1, j) : Nat × Nat)) := by intro h; cases h
  have h : ∃ r, lp (b_A_join_3 j (nI f) (nI l) (nI t)) (0, M) = some r ∧ ((∀ i, i < 32 → ∀ q, bt (r.2.1 (1, j) i) q = (bt (M.1 (1, j) i) q || (decide (16 * l ≤ i) && (decide (i < 16 * l + 16) && ((i - 16 * l).testBit f && decide (q = t)))))) ∧ Frm (fun x => x = (1, j)) M r.2) := by
    refine lp_for 16 (fun k s => s.1 = nI k ∧ (∀ i, i < 32 → ∀ q, bt (s.2.1 (1, j) i) q = (bt (M.1 (1, j) i) q || (decide (16 * l ≤ i) && (decide (i < 16 * l + k) && ((i - 16 * l).testBit f && decide (q = t)))))) ∧ Frm (fun x => x = (1, j)) M s.2) _ (fun k s hk h => ?_) (fun s h => ?_) (k := 0) ⟨rfl, fun i hi q => ?_, Frm.rfl⟩ (by omega) (by omega)
    · obtain ⟨i0, A⟩ := s
      obtain ⟨rfl, h2, h3⟩ := h
      have h2 : ∀ i, i < 32 → ∀ q, bt (A.1 (1, j) i) q = (bt (M.1 (1, j) i) q || (decide (16 * l ≤ i) && (decide (i < 16 * l + k) && ((i - 16 * l).testBit f && decide (q = t))))) := h2
      unfold b_A_join_3
      show (∃ s', (if (16 : Int32) ≤ nI k then _ else _) = _ ∧ _) ∨ (∃ r, (if (16 : Int32) ≤ nI k then _ else _) = _ ∧ _)
      rw [if_lt (x := 16) (B := 16) hk (by omega) rfl]
      cases hb : k.testBit f
      · rw [if_pos (by rw [b_tst _ (by omega), bt_nI (by omega), hb])]
        refine Or.inl ⟨(nI k + 1, A), rfl, nI_inc k, fun i hi q => ?_, h3⟩
        show bt (A.1 (1, j) i) q = _
        rw [h2 i hi q]
        congr 1
        by_cases e1 : i = 16 * l + k
        · subst e1
          rw [show 16 * l + k - 16 * l = k by omega, hb]
          simp
        · by_cases e2 : i < 16 * l + k
          · simp [e2, show i < 16 * l + (k + 1) by omega]
          · simp [e2, show ¬ i < 16 * l + (k + 1) by omega]
      · rw [if_neg (by rw [b_tst _ (by omega), bt_nI (by omega), hb]; simp)]
        rw [letter1 l hl, nI_add, ck_of (vp_inb (by rw [lenI_fo hj]; exact vp_in_nI (by omega) (by omega))), ck_of (vp_inb (by rw [lenI_fo hj]; exact vp_in_nI (by omega) (by omega))), nI_clamp (by omega), bd_some]
        refine Or.inl ⟨_, rfl, nI_inc k, fun i hi q => ?_, h3.trans (Frm.uI A _ _ rfl)⟩
        show bt ((uI A (1, j) (16 * l + k) _).1 (1, j) i) q = _
        by_cases e1 : i = 16 * l + k
        · subst e1
          rw [uI_at, b_or, b_bit (by omega)]
          show (bt (A.1 (1, j) (16 * l + k)) q || _) = _
          rw [h2 _ hi q]
          rw [show 16 * l + k - 16 * l = k by omega, hb]
          simp
        · rw [uI_off _ _ _ e1]
          rw [h2 i hi q]
          congr 1
          by_cases e2 : i < 16 * l + k
          · simp [e2, show i < 16 * l + (k + 1) by omega]
          · simp [e2, show ¬ i < 16 * l + (k + 1) by omega]
    · obtain ⟨i0, A⟩ := s
      obtain ⟨rfl, h2, h3⟩ := h
      refine ⟨(nI 16, A), ?_, h2, h3⟩
      unfold b_A_join_3
      show (if (16 : Int32) ≤ nI 16 then _ else _) = _
      rw [if_ge (x := 16) (B := 16) (Nat.le_refl _) (by omega) rfl]
    · show bt (M.1 (1, j) i) q = _
      by_cases e2 : 16 * l ≤ i
      · rw [show decide (i < 16 * l + 0) = false from decide_eq_false (by omega)]; simp
      · simp [e2]
  obtain ⟨r, h1, h2, h3⟩ := h
  refine ⟨r.2, ?_, ⟨?_, fun q hq => ?_, fun l' hl' s hs q hq => ?_⟩, h3.mono fun c hc => Or.inr hc⟩
  · unfold m_A_join
    rw [h1, bd_some]
  · rw [h3.1 _ hne]; exact hC.1
  · rw [h3.1 _ hne]; exact hC.2.1 q hq
  · rw [h2 _ (by omega) q, Bool.or_eq_true, hC.2.2 l' hl' s hs q hq]
    by_cases el : l' = l
    · subst el
      have e1 : 16 * l' + s - 16 * l' = s := by omega
      rw [e1]
      constructor
      · rintro (⟨p, a1, a2, a3⟩ | h4)
        · exact ⟨p, a1, a2, by simp [addE, a3]⟩
        · simp at h4
          exact ⟨f, hf, h4.2.1, by simp [addE, h4.2.2]⟩
      · rintro ⟨p, a1, a2, a3⟩
        simp only [addE, Bool.or_eq_true, Bool.and_eq_true, decide_eq_true_eq] at a3
        rcases a3 with a3 | ⟨-, rfl, rfl⟩
        · exact Or.inl ⟨p, a1, a2, a3⟩
        · exact Or.inr (by simp [a2, hs])
    · have e1 : (decide (16 * l ≤ 16 * l' + s) && decide (16 * l' + s < 16 * l + 16)) = false := by
        by_cases e2 : 16 * l ≤ 16 * l' + s
        · simp [show ¬ 16 * l' + s < 16 * l + 16 by omega]
        · simp [e2]
      rw [← Bool.and_assoc, e1]
      constructor
      · rintro (⟨p, a1, a2, a3⟩ | h4)
        · exact ⟨p, a1, a2, by simp [addE, a3]⟩
        · simp at h4
      · rintro ⟨p, a1, a2, a3⟩
        simp only [addE, Bool.or_eq_true, Bool.and_eq_true, decide_eq_true_eq] at a3
        rcases a3 with a3 | ⟨h5, -⟩
        · exact Or.inl ⟨p, a1, a2, a3⟩
        · exact absurd h5 el
/-- pictures of the same edges -/
theorem CP_ext {M : Mm} {j n : Nat} {g g' : Nat → Bool} {e e' : Ed} (h : CP M j n g e) (hg : ∀ q, q < 32 → g q = g' q) (he : ∀ l p q, e l p q = e' l p q) : CP M j n g' e' := by
  have : e = e' := funext fun l => funext fun p => funext fun q => he l p q
  subst this
  exact ⟨h.1, fun q hq => by rw [h.2.1 q hq, hg q hq], h.2.2⟩
def addRow (e : Ed) (l f n : Nat) (x : Nat → Bool) : Ed := fun l' p q => e l' p q || (decide (l' = l) && (decide (p = f) && (decide (q < n) && x q)))
theorem joinAll_eq {M : Mm} {j n : Nat} {g : Nat → Bool} {e : Ed} (hj : j < 7) (hn : n ≤ 4) (hC : CP M j n g e) {l f : Nat} (hl : l < 2) (hf : f < 4) (x : Int32) : ∃ M', m_A_joinAll j (nI f) (nI l) x M = some M' ∧ CP M' j n g (addRow e l f n (bt x)) ∧ Frm (uA j) M M' := by
  have h : ∃ r, lp (b_A_joinAll_3 j (nI f) (nI l) x) (0, M) = some r ∧ (CP r.2 j n g (addRow e l f n (bt x)) ∧ Frm (uA j) M r.2) := by
    refine lp_for n (fun k s => s.1 = nI k ∧ CP s.2 j n g (addRow e l f k (bt x)) ∧ Frm (uA j) M s.2) _ (fun k s hk h => ?_) (fun s h => ?_) (k := 0) ⟨rfl, CP_ext hC (fun _ _ => rfl) (fun l' p q => by simp [addRow]), Frm.rfl⟩ (by omega) (by omega)
    · obtain ⟨i0, A⟩ := s
      obtain ⟨rfl, h2, h3⟩ := h
      have h2 : CP A j n g (addRow e l f k (bt x)) := h2
      unfold b_A_joinAll_3
      show (∃ s', (if A.1 (0, j) 0 ≤ nI k then _ else _) = _ ∧ _) ∨ (∃ r, (if A.1 (0, j) 0 ≤ nI k then _ else _) = _ ∧ _)
      rw [if_lt hk (by omega) h2.1]
      cases hb : bt x k
      · rw [if_pos (by rw [b_tst _ (by omega), hb])]
        refine Or.inl ⟨(nI k + 1, A), rfl, nI_inc k, CP_ext h2 (fun _ _ => rfl) (fun l' p q => ?_), h3⟩
        simp only [addRow]
        congr 3
        by_cases e1 : q = k
        · subst e1; simp [hb]
        · by_cases e2 : q < k
          · simp [e2, show q < k + 1 by omega]
          · simp [e2, show ¬ q < k + 1 by omega]
      · rw [if_neg (by rw [b_tst _ (by omega), hb]; simp)]
        obtain ⟨B, b1, b2, b3⟩ := join_eq hj h2 hl hf (t := k) (by omega)
        show (∃ s', bd (m_A_join j (nI f) (nI l) (nI k) A) _ = _ ∧ _) ∨ _
        rw [b1, bd_some]
        refine Or.inl ⟨(nI k + 1, B), rfl, nI_inc k, CP_ext b2 (fun _ _ => rfl) (fun l' p q => ?_), h3.trans b3⟩
        simp only [addRow, addE]
        by_cases e1 : q = k
        · subst e1; simp [hb]
        · by_cases e2 : q < k
          · simp [e1, e2, show q < k + 1 by omega]
          · simp [e1, e2, show ¬ q < k + 1 by omega]
    · obtain ⟨i0, A⟩ := s
      obtain ⟨rfl, h2, h3⟩ := h
      refine ⟨(nI n, A), ?_, h2, h3⟩
      unfold b_A_joinAll_3
      show (if A.1 (0, j) 0 ≤ nI n then _ else _) = _
      rw [if_ge (Nat.le_refl _) (by omega) h2.1]
  obtain ⟨r, h1, h2, h3⟩ := h
  refine ⟨r.2, ?_, h2, h3⟩
  unfold m_A_joinAll
  rw [h1, bd_some]
