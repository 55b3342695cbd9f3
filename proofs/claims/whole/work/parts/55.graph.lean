/-! the lasso's graph: positions 0 .. m + k - 1, the last one goes back to m -/
def np (m k p : Nat) : Nat := if p + 1 = m + k then m else p + 1
def npt (m k : Nat) : Nat → Nat → Nat
  | 0, p => p
  | t + 1, p => npt m k t (np m k p)
/-- the letters on t steps from position p -/
def lw (L : Nat → Nat) (m k : Nat) : Nat → Nat → List Nat
  | 0, _ => []
  | t + 1, p => L p :: lw L m k t (np m k p)
section GR
variable {L : Nat → Nat} {m k : Nat}
theorem npt_add : ∀ (a b p : Nat), npt m k (a + b) p = npt m k b (npt m k a p)
  | 0, b, p => by rw [Nat.zero_add]; rfl
  | a + 1, b, p => by rw [Nat.succ_add]; exact npt_add a b (np m k p)
theorem lw_add : ∀ (a b p : Nat), lw L m k (a + b) p = lw L m k a p ++ lw L m k b (npt m k a p)
  | 0, b, p => by rw [Nat.zero_add]; rfl
  | a + 1, b, p => by
    rw [Nat.succ_add]
    show L p :: lw L m k (a + b) (np m k p) = L p :: (lw L m k a (np m k p) ++ _)
    rw [lw_add a b (np m k p)]
    rfl
theorem lw_len : ∀ (a p : Nat), (lw L m k a p).length = a
  | 0, _ => rfl
  | a + 1, p => by show (lw L m k a _).length + 1 = a + 1; rw [lw_len a]
/-- straight on -/
theorem npt_up : ∀ (t p : Nat), p + t < m + k → npt m k t p = p + t
  | 0, p, _ => rfl
  | t + 1, p, h => by
    show npt m k t (np m k p) = _
    have e : np m k p = p + 1 := if_neg (by omega)
    rw [e, npt_up t (p + 1) (by omega)]
    omega
theorem npt_back {p : Nat} (hp : m ≤ p) (hk : p < m + k) : npt m k (m + k - p) p = m := by
  obtain ⟨t, ht⟩ : ∃ t, m + k - p = t + 1 := ⟨m + k - p - 1, by omega⟩
  rw [ht, npt_add, npt_up t p (by omega)]
  show np m k (p + t) = m
  exact if_pos (by omega)
theorem npt_round (hk : 0 < k) : npt m k k m = m := by
  have := npt_back (m := m) (k := k) (p := m) (Nat.le_refl m) (by omega)
  rw [show m + k - m = k by omega] at this
  exact this
theorem np_in (hk : 0 < k) {p : Nat} (hp : m ≤ p) (h : p < m + k) : m ≤ np m k p ∧ np m k p < m + k := by
  unfold np
  split <;> omega
theorem npt_in (hk : 0 < k) : ∀ (t : Nat) {p : Nat}, m ≤ p → p < m + k → m ≤ npt m k t p ∧ npt m k t p < m + k
  | 0, p, h1, h2 => ⟨h1, h2⟩
  | t + 1, p, h1, h2 => npt_in hk t (np_in hk h1 h2).1 (np_in hk h1 h2).2
theorem lw_rounds (hk : 0 < k) : ∀ j, lw L m k (k * j) m = rep (lw L m k k m) j ∧ npt m k (k * j) m = m
  | 0 => ⟨rfl, rfl⟩
  | j + 1 => by
    obtain ⟨h1, h2⟩ := lw_rounds hk j
    rw [show k * (j + 1) = k + k * j by rw [Nat.mul_succ]; omega, lw_add, npt_add, npt_round hk, h1, h2]
    exact ⟨rfl, rfl⟩
/-- back at m: whole rounds -/
theorem npt_m (hk : 0 < k) (x : Nat) (h : npt m k x m = m) : ∃ j, x = k * j := by
  refine ⟨x / k, ?_⟩
  have e : x = k * (x / k) + x % k := (Nat.div_add_mod x k).symm
  have hl := Nat.mod_lt x hk
  generalize x % k = r at *
  generalize x / k = q at *
  subst e
  rw [npt_add, (lw_rounds (L := fun _ => 0) hk q).2, npt_up r m (by omega)] at h
  omega
theorem npt_self (hk : 0 < k) {p x : Nat} (hp : m ≤ p) (hp2 : p < m + k) (h : npt m k x p = p) : ∃ j, x = k * j := by
  -- turn it to m: p is p - m steps behind m
  have e1 : npt m k (p - m) m = p := by rw [npt_up _ _ (by omega)]; omega
  refine npt_m (m := m) hk x ?_
  have e2 : npt m k (m + k - p) p = m := npt_back hp hp2
  have e3 : npt m k (x + (m + k - p)) p = m := by rw [npt_add, h, e2]
  rw [Nat.add_comm, npt_add, e2] at e3
  exact e3
theorem pth_split {ed : Ed} (a b : Nat) {p s q : Nat} (h : pth ed (lw L m k (a + b) p) s q) : ∃ c, pth ed (lw L m k a p) s c ∧ pth ed (lw L m k b (npt m k a p)) c q := by
  rw [lw_add] at h
  exact (pth_app _ _ _ _).mp h
/-- a good node on a cycle that the start reaches: just the lasso's being taken -/
def Gl (ed : Ed) (gd : Nat → Bool) (L : Nat → Nat) (m k : Nat) : Prop := ∃ p s, m ≤ p ∧ p < m + k ∧ gd s = true ∧ (∃ t, npt m k t 0 = p ∧ pth ed (lw L m k t 0) 0 s) ∧ ∃ t, npt m k (t + 1) p = p ∧ pth ed (lw L m k (t + 1) p) s s
theorem Gl_iff {ed : Ed} {gd : Nat → Bool} (hk : 0 < k) : Gl ed gd L m k ↔ Tk ed gd (lw L m k m 0) (lw L m k k m) := by
  have hm0 : npt m k m 0 = m := by rw [npt_up m 0 (by omega)]; omega
  constructor
  · rintro ⟨p, s, hp, hp2, hg, ⟨t, ht, h1⟩, t', ht', h2⟩
    have htm : m ≤ t := by
      rcases Nat.lt_or_ge t m with h | h
      · rw [npt_up t 0 (by omega)] at ht; omega
      · exact h
    obtain ⟨d, rfl⟩ : ∃ d, t = m + d := ⟨t - m, by omega⟩
    obtain ⟨q, a1, a2⟩ := pth_split m d h1
    rw [npt_add, hm0] at ht
    rw [hm0] at a2
    obtain ⟨j, hj⟩ := npt_self hk hp hp2 ht'
    have hj0 : 0 < j := by
      rcases Nat.eq_zero_or_pos j with h | h
      · rw [h] at hj; omega
      · exact h
    obtain ⟨r, hr⟩ : ∃ r, r = m + k - p := ⟨_, rfl⟩
    have hrk : r ≤ k * j := by
      have : k * 1 ≤ k * j := Nat.mul_le_mul_left k hj0
      omega
    have hback : npt m k r p = m := by rw [hr]; exact npt_back hp hp2
    obtain ⟨y, hy⟩ : ∃ y, k * j = r + y := ⟨k * j - r, by omega⟩
    rw [hj, hy] at h2 ht'
    obtain ⟨c, b1, b2⟩ := pth_split r y h2
    rw [npt_add, hback] at ht'
    rw [hback] at b2
    -- from q by s to c
    have e1 : pth ed (lw L m k (d + r) m) q c := by rw [lw_add, ht]; exact pth_j a2 b1
    have e2 : npt m k (d + r) m = m := by rw [npt_add, ht, hback]
    obtain ⟨j1, hj1⟩ := npt_m hk _ e2
    -- c's own cycle
    have e3 : gth ed gd (lw L m k (y + r) m) c c := by
      rw [lw_add, ht']
      cases hy0 : y with
      | zero =>
        rw [hy0] at b2 ht'
        have hcs : c = s := b2
        have hr0 : lw L m k r p ≠ [] := by
          intro h
          have := congrArg List.length h
          rw [lw_len] at this
          simp at this; omega
        show gth ed gd ([] ++ lw L m k r p) c c
        rw [List.nil_append]
        have hgc : gd c = true := by rw [hcs]; exact hg
        have : pth ed (lw L m k r p) c c := by rw [hcs] at b1 ⊢; exact b1
        exact pth_good _ _ _ hr0 hgc this
      | succ y' =>
        rw [hy0] at b2
        exact gth_l (pth_good _ _ _ (by intro h; cases h) hg b2) b1
    refine ⟨q, c, j1, j, a1, ?_, ?_⟩
    · rw [← (lw_rounds hk j1).1, ← hj1]; exact e1
    · rw [← (lw_rounds hk j).1, hy, Nat.add_comm]; exact e3
  · rintro ⟨q, c, k1, j, h1, h2, h3⟩
    rw [← (lw_rounds hk k1).1] at h2
    rw [← (lw_rounds hk j).1] at h3
    have hmj := (lw_rounds (L := L) (m := m) hk j).2
    obtain ⟨w1, w2, s, e1, hw1, hg, a1, a2⟩ := gth_cut _ _ _ h3
    have hlen : w1.length + w2.length = k * j := by
      have := congrArg List.length e1
      rw [lw_len, List.length_append] at this
      exact this.symm
    obtain ⟨t1, ht1⟩ : ∃ t, t = w1.length := ⟨_, rfl⟩
    obtain ⟨t2, ht2⟩ : ∃ t, t = w2.length := ⟨_, rfl⟩
    have e2 : lw L m k (t1 + t2) m = lw L m k t1 m ++ lw L m k t2 (npt m k t1 m) := lw_add t1 t2 m
    rw [show t1 + t2 = k * j by omega, e1] at e2
    obtain ⟨f1, f2⟩ := List.append_inj e2 (by rw [lw_len, ht1])
    rw [f1] at a1 hw1
    rw [f2] at a2
    have ht10 : 0 < t1 := by
      rcases Nat.eq_zero_or_pos t1 with h | h
      · rw [h] at hw1; exact absurd rfl hw1
      · exact h
    obtain ⟨p, hp⟩ : ∃ p, p = npt m k t1 m := ⟨_, rfl⟩
    rw [← hp] at a2
    have hin := npt_in hk t1 (p := m) (Nat.le_refl m) (by omega)
    rw [← hp] at hin
    have hpm : npt m k t2 p = m := by rw [hp, ← npt_add, show t1 + t2 = k * j by omega]; exact hmj
    refine ⟨p, s, hin.1, hin.2, hg, ⟨m + (k * k1 + t1), ?_, ?_⟩, t2 + t1 - 1, ?_, ?_⟩
    · rw [npt_add, hm0, npt_add, (lw_rounds (L := L) hk k1).2, hp]
    · rw [lw_add, hm0, lw_add, (lw_rounds (L := L) hk k1).2]
      exact pth_j h1 (pth_j h2 a1)
    · rw [show t2 + t1 - 1 + 1 = t2 + t1 by omega, npt_add, hpm, hp]
    · rw [show t2 + t1 - 1 + 1 = t2 + t1 by omega, lw_add, hpm]
      exact pth_j a2 a1
end GR
