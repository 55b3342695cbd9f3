/-! Passage: rows of eight bits; ends, good ends, the chain, what is taken when repeated -/
def en (p : Int32) (k : Nat) : Int32 := (p.toUInt32 >>> ((nI (8 * k)).toUInt32 &&& Int32.toUInt32 31)).toInt32 &&& 15
def gn (p : Int32) (k : Nat) : Int32 := (p.toUInt32 >>> ((nI (8 * k + 4)).toUInt32 &&& Int32.toUInt32 31)).toInt32 &&& 15
theorem bt_en (p : Int32) {k : Nat} (hk : k < 4) (i : Nat) : bt (en p k) i = (decide (i < 4) && bt p (8 * k + i)) := by
  unfold en
  rw [b_and, b_ushr (8 * k) (by omega), b_15, Bool.and_comm]
theorem bt_gn (p : Int32) {k : Nat} (hk : k < 4) (i : Nat) : bt (gn p k) i = (decide (i < 4) && bt p (8 * k + 4 + i)) := by
  unfold gn
  rw [b_and, b_ushr (8 * k + 4) (by omega), b_15, Bool.and_comm]
theorem ends_eq (p : Int32) (k : Nat) : m_P_ends p (nI k) = some (en p k) := by
  unfold m_P_ends en
  rw [i8]
theorem goodEnds_eq (p : Int32) (k : Nat) : m_P_goodEnds p (nI k) = some (gn p k) := by
  unfold m_P_goodEnds gn
  rw [i84]
theorem fromStart_eq (p : Int32) : m_P_fromStart p = some (en p 0) := by
  unfold m_P_fromStart
  rw [show (0 : Int32) = nI 0 from rfl, ends_eq]
  rfl
/-- the ends as a relation on four points, the good ends likewise -/
def rE (p : Int32) : Rl := fun x y => decide (x < 4) && (decide (y < 4) && bt p (8 * x + y))
def rG (p : Int32) : Rl := fun x y => decide (x < 4) && (decide (y < 4) && bt p (8 * x + 4 + y))
theorem rE_lt {p : Int32} {x y : Nat} (h : rE p x y = true) : x < 4 ∧ y < 4 := by
  simp only [rE, Bool.and_eq_true, decide_eq_true_eq] at h
  exact ⟨h.1, h.2.1⟩
theorem rE_bt {p : Int32} {x y : Nat} (hx : x < 4) (hy : y < 4) : rE p x y = bt p (8 * x + y) := by simp [rE, hx, hy]
theorem rG_bt {p : Int32} {x y : Nat} (hx : x < 4) (hy : y < 4) : rG p x y = bt p (8 * x + 4 + y) := by simp [rG, hx, hy]
theorem rE_out {p : Int32} {x y : Nat} (h : ¬ (x < 4 ∧ y < 4)) : rE p x y = false := by
  cases e : rE p x y
  · rfl
  · exact absurd (rE_lt e) h
theorem chain_put (c : Int32) {b f : Nat} (hb : b < 4) (hf : f < 4) {x y : Nat} (hx : x < 4) (hy : y < 4) : bt (c ||| (en c b <<< (nI (8 * f) &&& 31))) (8 * x + y) = (bt c (8 * x + y) || (decide (x = f) && bt c (8 * b + y))) := by
  rw [b_or, b_shl (8 * f) (by omega) _ (by omega), bt_en c hb]
  congr 1
  by_cases e : x = f
  · subst e
    have e1 : 8 * x + y - 8 * x = y := by omega
    simp [e1, hy]
  · rw [decide_eq_false e, Bool.false_and]
    by_cases e2 : 8 * f ≤ 8 * x + y
    · have : ¬ (8 * x + y - 8 * f < 4) := by omega
      simp [this]
    · simp [e2]
/-- the inner loop of chained: one step of Warshall -/
theorem chain_in (c : Int32) {b : Nat} (hb : b < 4) : ∃ r, lp (b_P_chained_11 (nI b)) (c, 0) = some r ∧ ∀ x y, rE r.1 x y = wst (rE c) b x y := by
  have key : ∀ (s : Int32 × Int32) (k : Nat), k < 4 → s.2 = nI k → (∀ x y, x < 4 → y < 4 → bt s.1 (8 * x + y) = if x < k then wst (rE c) b x y else rE c x y) → ∃ s', b_P_chained_11 (nI b) s = some (.inl s') ∧ s'.2 = nI (k + 1) ∧ (∀ x y, x < 4 → y < 4 → bt s'.1 (8 * x + y) = if x < k + 1 then wst (rE c) b x y else rE c x y) := by
    intro s k hk h2 h1
    have hrow : ∀ y, y < 4 → bt s.1 (8 * b + y) = rE c b y := by
      intro y hy
      rw [h1 b y hb hy]
      split
      · simp only [wst]
        cases rE c b b <;> cases rE c b y <;> rfl
      · rfl
    have hfb : bt s.1 (8 * k + b) = rE c k b := by
      rw [h1 k b hk hb, if_neg (by omega)]
    unfold b_P_chained_11
    rw [h2, if_lt (x := 4) (B := 4) hk (by decide) rfl, ends_eq, bd_some]
    by_cases ht : rE c k b = true
    · have hne : ¬ ((en s.1 k >>> (nI b &&& 31)) &&& 1) = 0 := by
        rw [b_tst _ (by omega), bt_en _ hk, hfb, ht]
        simp [hb]
      rw [if_neg hne, ends_eq, bd_some, bd_some, i8]
      refine ⟨_, rfl, nI_inc k, fun x y hx hy => ?_⟩
      rw [chain_put _ hb hk hx hy, hrow y hy, h1 x y hx hy]
      by_cases e : x = k
      · subst e
        rw [if_neg (by omega), if_pos (by omega)]
        simp [wst, ht]
      · simp only [e, decide_false, Bool.false_and, Bool.or_false]
        by_cases e2 : x < k
        · rw [if_pos e2, if_pos (by omega)]
        · rw [if_neg e2, if_neg (by omega)]
    · have hf : rE c k b = false := by simpa using ht
      have he : ((en s.1 k >>> (nI b &&& 31)) &&& 1) = 0 := by
        rw [b_tst _ (by omega), bt_en _ hk, hfb, hf]
        simp
      rw [if_pos he]
      refine ⟨_, rfl, nI_inc k, fun x y hx hy => ?_⟩
      rw [h1 x y hx hy]
      by_cases e : x = k
      · subst e
        rw [if_neg (by omega), if_pos (by omega)]
        simp [wst, hf]
      · by_cases e2 : x < k
        · rw [if_pos e2, if_pos (by omega)]
        · rw [if_neg e2, if_neg (by omega)]
  refine lp_for 4 (fun k s => s.2 = nI k ∧ ∀ x y, x < 4 → y < 4 → bt s.1 (8 * x + y) = if x < k then wst (rE c) b x y else rE c x y) _ (fun k s hk h => ?_) (fun s h => ?_) (k := 0) ⟨rfl, fun x y hx hy => ?_⟩ (by omega) (by omega)
  · obtain ⟨s', a1, a2, a3⟩ := key s k hk h.1 h.2
    exact Or.inl ⟨s', a1, a2, a3⟩
  · refine ⟨(s.1, s.2), ?_, fun x y => ?_⟩
    · unfold b_P_chained_11
      rw [h.1, if_ge (x := 4) (B := 4) (Nat.le_refl 4) (by decide) rfl, ← h.1]
    · by_cases hxy : x < 4 ∧ y < 4
      · rw [rE_bt hxy.1 hxy.2, h.2 x y hxy.1 hxy.2, if_pos hxy.1]
      · rw [rE_out hxy]
        simp only [wst]
        have : rE c x y = false := rE_out hxy
        rw [this]
        by_cases hx : x < 4
        · have hy : ¬ y < 4 := fun h => hxy ⟨hx, h⟩
          rw [rE_out (p := c) (x := b) (y := y) (fun h => hy h.2)]
          simp
        · rw [rE_out (p := c) (x := x) (y := b) (fun h => hx h.1)]
          simp
  · rw [if_neg (by omega), rE_bt hx hy]
def wk (R : Rl) : Nat → Rl
  | 0 => R
  | k + 1 => wst (wk R k) k
theorem chained_eq (p : Int32) : ∃ r, m_P_chained p = some r ∧ ∀ x y, rE r x y = true ↔ pl (rE p) x y := by
  have h : ∃ r, lp b_P_chained_4 (p, 0) = some r ∧ ∀ x y, rE r.1 x y = wk (rE p) 4 x y := by
    refine lp_for 4 (fun k s => s.2 = nI k ∧ ∀ x y, rE s.1 x y = wk (rE p) k x y) _ (fun k s hk h => ?_) (fun s h => ?_) (k := 0) ⟨rfl, fun x y => rfl⟩ (by omega) (by omega)
    · obtain ⟨r, h1, h2⟩ := chain_in s.1 hk
      refine Or.inl ⟨(r.1, nI (k + 1)), ?_, rfl, fun x y => ?_⟩
      · unfold b_P_chained_4
        rw [h.1, if_lt (x := 4) (B := 4) hk (by decide) rfl, h1, bd_some, nI_inc]
      · show rE r.1 x y = wst (wk (rE p) k) k x y
        rw [h2 x y]
        simp only [wst, h.2]
    · refine ⟨(s.1, s.2), ?_, h.2⟩
      unfold b_P_chained_4
      rw [h.1, if_ge (x := 4) (B := 4) (Nat.le_refl 4) (by decide) rfl, ← h.1]
  obtain ⟨r, h1, h2⟩ := h
  refine ⟨r.1, ?_, fun x y => ?_⟩
  · unfold m_P_chained
    rw [h1, bd_some]
  · rw [h2 x y]
    exact wst4 (fun x y h => rE_lt h) x y
