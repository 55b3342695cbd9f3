/-! the reference's allBehind and lasso -/
theorem countP_lt {α : Type} (p q : α → Bool) : ∀ (l : List α), (∀ a, a ∈ l → q a = true → p a = true) → (∃ a, a ∈ l ∧ p a = true ∧ q a = false) → l.countP q < l.countP p
  | [], _, ⟨_, h, _⟩ => by cases h
  | b :: l, h1, ⟨a, ha, hp, hq⟩ => by
    have hle : l.countP q ≤ l.countP p := List.countP_mono_left (fun x hx => h1 x (List.mem_cons_of_mem _ hx))
    rw [List.countP_cons, List.countP_cons]
    rcases List.mem_cons.mp ha with rfl | ha
    · rw [hp, hq]; simp; omega
    · have := countP_lt p q l (fun x hx => h1 x (List.mem_cons_of_mem _ hx)) ⟨a, ha, hp, hq⟩
      have h2 := h1 b List.mem_cons_self
      cases hb : q b
      · cases p b <;> simp <;> omega
      · rw [h2 hb]; simp; omega
def cz (x : Int64) : Nat := (List.range 64).countP (fun i => !bl x i)
theorem cz_le (x : Int64) : cz x ≤ 64 := by
  have := List.countP_le_length (p := fun i => !bl x i) (l := List.range 64)
  simpa [cz] using this
theorem cz_lt {x y : Int64} (h : ∀ i, i < 64 → bl x i = true → bl y i = true) (hne : ¬ y = x) : cz y < cz x := by
  refine countP_lt _ _ _ (fun a ha hq => ?_) ?_
  · have ha := List.mem_range.mp ha
    cases e : bl x a
    · rfl
    · rw [h a ha e] at hq; cases hq
  · apply Classical.byContradiction
    intro hn
    refine hne (l_ext fun i hi => ?_)
    cases e : bl x i
    · cases e2 : bl y i
      · rfl
      · exact absurd ⟨i, List.mem_range.mpr hi, by simp [e], by simp [e2]⟩ hn
    · exact h i hi e
section ALB
variable {M : Mm} {a n : Nat} {g : Nat → Bool} {e : Ed} {m k : Nat} {u v : Int32}
/-- reached by one step or more -/
def Rch (n : Nat) (e : Ed) (m : Nat) (u : Int32) (k : Nat) (v : Int32) (x : Int64) (i : Nat) : Prop := ∃ p s t q, p < m + k ∧ s < n ∧ bl x (4 * p + s) = true ∧ i = 4 * npt m k (t + 1) p + q ∧ pth e (lw (Lt m u k v) m k (t + 1) p) s q
theorem npt_lt (hk : 0 < k) : ∀ (t : Nat) {p : Nat}, p < m + k → npt m k t p < m + k
  | 0, p, h => h
  | t + 1, p, h => by
    refine npt_lt hk t ?_
    unfold np; split <;> omega
theorem Rch_1 {x : Int64} {i : Nat} (h : St n e m u k v x i) : Rch n e m u k v x i := by
  obtain ⟨p, s, h1, h2, h3, h4, h5⟩ := h
  exact ⟨p, s, 0, i - 4 * np m k p, h1, h2, h3, by show i = 4 * np m k p + _; omega, i - 4 * np m k p, h5, rfl⟩
theorem Rch_q (hA : AOK n g e) {t p s q : Nat} (h : pth e (lw (Lt m u k v) m k (t + 1) p) s q) : s < n ∧ q < n := by
  obtain ⟨y, h1, h2⟩ := h
  have := hA.2.2 _ _ _ h1
  exact ⟨this.2.1, pth_lt hA _ this.2.2 h2⟩
theorem Rch_s (hA : AOK n g e) (hk : 0 < k) {x y : Int64} (hy : ∀ i, i < 64 → bl y i = true → Rch n e m u k v x i) (hN : m + k ≤ 16) {i : Nat} (h : St n e m u k v y i) : Rch n e m u k v x i := by
  have hn := hA.1
  obtain ⟨p, s, h1, h2, h3, h4, h5⟩ := h
  obtain ⟨p0, s0, t, q, a1, a2, a3, a4, a5⟩ := hy _ (by omega) h3
  have hq := (Rch_q hA a5).2
  have hp : p = npt m k (t + 1) p0 := by omega
  have hs : s = q := by omega
  subst hp hs
  refine ⟨p0, s0, t + 1, i - 4 * np m k (npt m k (t + 1) p0), a1, a2, a3, ?_, ?_⟩
  · rw [npt_add (t + 1) 1]
    show i = 4 * np m k _ + _
    omega
  · rw [lw_add (t + 1) 1]
    exact pth_j a5 ⟨_, h5, rfl⟩
theorem Rch_c (hA : AOK n g e) (hk : 0 < k) {x C : Int64} (hN : m + k ≤ 16) (h1 : ∀ i, i < 64 → St n e m u k v x i → bl C i = true) (h2 : ∀ i, i < 64 → St n e m u k v C i → bl C i = true) {i : Nat} (h : Rch n e m u k v x i) : i < 64 ∧ bl C i = true := by
  have hn := hA.1
  obtain ⟨p, s, t, q, a1, a2, a3, a4, a5⟩ := h
  induction t generalizing i q with
  | zero =>
    have hq := (Rch_q hA a5).2
    have hp := npt_lt (m := m) hk 1 a1
    obtain ⟨y, b1, b2⟩ := a5
    have b2 : y = q := b2
    subst b2
    have hi : i < 64 := by rw [a4]; show 4 * npt m k 1 p + y < 64; omega
    have e1 : i = 4 * np m k p + y := a4
    exact ⟨hi, h1 i hi ⟨p, s, a1, a2, a3, by omega, by rw [show i - 4 * np m k p = y by omega]; exact b1⟩⟩
  | succ t ih =>
    have hq := (Rch_q hA a5).2
    obtain ⟨y, b1, b2⟩ := pth_split (t + 1) 1 a5
    have hy := (Rch_q hA b1).2
    obtain ⟨-, c2⟩ := ih (i := 4 * npt m k (t + 1) p + y) (q := y) rfl b1
    have hp := npt_lt (m := m) hk (t + 1) a1
    have hp2 := npt_lt (m := m) hk (t + 1 + 1) a1
    obtain ⟨z, d1, d2⟩ := b2
    have d2 : z = q := d2
    subst d2
    have hi : i < 64 := by omega
    have e1 : npt m k (t + 1 + 1) p = np m k (npt m k (t + 1) p) := npt_add (t + 1) 1 p
    rw [e1] at a4
    exact ⟨hi, h2 i hi ⟨npt m k (t + 1) p, y, hp, hy, c2, by omega, by rw [show i - 4 * np m k (npt m k (t + 1) p) = z by omega]; exact d1⟩⟩
theorem allBehind_eq (hA : AOK n g e) (hR : RP M a n g e) (ha : a < 6) (x : Int64) (hm : m ≤ 8) (hk : 0 < k) (hk2 : k ≤ 8) : ∃ r, m_M_allBehind (nI a) x (nI m) u (nI k) v M = some r ∧ ∀ i, i < 64 → (bl r i = true ↔ Rch n e m u k v x i) := by
  obtain ⟨r0, h1, h2⟩ := behind_eq hA hR ha x u v hm hk hk2
  have h : ∃ r, lp (b_M_allBehind_19 (nI a) (nI m) u (nI k) v M) (r0, 0) = some r ∧ ∀ i, i < 64 → (bl r.1 i = true ↔ Rch n e m u k v x i) := by
    refine lp_run (fun s => (∀ i, i < 64 → bl s.2 i = true → bl s.1 i = true) ∧ (∀ i, i < 64 → bl s.1 i = true → Rch n e m u k v x i) ∧ (∀ i, i < 64 → St n e m u k v x i → bl s.1 i = true) ∧ ∀ i, i < 64 → St n e m u k v s.2 i → bl s.1 i = true) (fun s => cz s.2) _ (fun s hI => ?_) ⟨fun i _ h => ?_, fun i hi h => Rch_1 ((h2 i hi).mp h), fun i hi h => (h2 i hi).mpr h, fun i hi h => ?_⟩ (by have := cz_le 0; show cz 0 < 1000000; omega)
    · obtain ⟨all, bef⟩ := s
      obtain ⟨i1, i2, i3, i4⟩ := hI
      unfold b_M_allBehind_19
      show (∃ s', (if lg_cmp all bef = 0 then _ else _) = _ ∧ _) ∨ (∃ r, (if lg_cmp all bef = 0 then _ else _) = _ ∧ _)
      by_cases hc : all = bef
      · rw [if_pos ((lg_0 all bef).mpr hc)]
        subst hc
        exact Or.inr ⟨_, rfl, fun i hi => ⟨i2 i hi, fun h => (Rch_c hA hk (by omega) i3 i4 h).2⟩⟩
      · rw [if_neg (fun h => hc ((lg_0 all bef).mp h))]
        obtain ⟨r, h3, h4⟩ := behind_eq hA hR ha all u v hm hk hk2
        show (∃ s', bd (m_M_behind (nI a) all (nI m) u (nI k) v M) _ = _ ∧ _) ∨ _
        rw [h3, bd_some]
        refine Or.inl ⟨(all ||| r, all), rfl, ⟨fun i _ h => ?_, fun i hi h => ?_, fun i hi h => ?_, fun i hi h => ?_⟩, cz_lt i1 hc⟩
        · show bl (all ||| r) i = true
          rw [l_or, show bl all i = true from h]; rfl
        · have h : bl (all ||| r) i = true := h
          rw [l_or, Bool.or_eq_true] at h
          rcases h with h | h
          · exact i2 i hi h
          · exact Rch_s hA hk i2 (by omega) ((h4 i hi).mp h)
        · show bl (all ||| r) i = true
          rw [l_or, i3 i hi h]; rfl
        · show bl (all ||| r) i = true
          rw [l_or, (h4 i hi).mpr h]; simp
    · have h : bl 0 i = true := h
      rw [l_0] at h; cases h
    · obtain ⟨p, s, -, -, h3, -⟩ := h
      have h3 : bl 0 (4 * p + s) = true := h3
      rw [l_0] at h3; cases h3
  obtain ⟨r, h3, h4⟩ := h
  refine ⟨r.1, ?_, h4⟩
  unfold m_M_allBehind
  rw [h1, bd_some, h3, bd_some]
theorem l_bit {j : Nat} (hj : j < 64) {i : Nat} (hi : i < 64) : bl ((1 : Int64) <<< ((nI j).toInt64 &&& 63)) i = decide (i = j) := by
  rw [l_shl j hj 1 hi, l_1]
  by_cases e : i = j
  · subst e; simp
  · simp only [e, decide_false, Bool.and_eq_false_iff, decide_eq_false_iff_not]
    by_cases e2 : j ≤ i
    · right; omega
    · left; exact e2
theorem l_and_bit {j : Nat} (hj : j < 64) (x : Int64) : (x &&& ((1 : Int64) <<< ((nI j).toInt64 &&& 63))) = 0 ↔ bl x j = false := by
  rw [l_eq0]
  constructor
  · intro h
    have := h j hj
    rw [l_and, l_bit hj hj] at this
    simpa using this
  · intro h i hi
    rw [l_and, l_bit hj hi]
    by_cases e : i = j
    · subst e; simp [h]
    · simp [e]
/-- a good node on a cycle, at position p -/
def Gn (n : Nat) (g : Nat → Bool) (e : Ed) (m : Nat) (u : Int32) (k : Nat) (v : Int32) (p s : Nat) : Prop := g s = true ∧ (∃ t, npt m k t 0 = p ∧ pth e (lw (Lt m u k v) m k t 0) 0 s) ∧ ∃ t, npt m k (t + 1) p = p ∧ pth e (lw (Lt m u k v) m k (t + 1) p) s s
theorem reach0 (hA : AOK n g e) (hk : 0 < k) (hN : m + k ≤ 16) (hn0 : 0 < n) {all : Int64} (hall : ∀ i, i < 64 → (bl all i = true ↔ Rch n e m u k v 1 i)) {p s : Nat} (hp : p < m + k) (hs : s < n) : bl ((1 : Int64) ||| all) (4 * p + s) = true ↔ ∃ t, npt m k t 0 = p ∧ pth e (lw (Lt m u k v) m k t 0) 0 s := by
  have hn := hA.1
  rw [l_or, Bool.or_eq_true, l_1, decide_eq_true_eq, hall _ (by omega)]
  constructor
  · rintro (h | ⟨p0, s0, t, q, a1, a2, a3, a4, a5⟩)
    · have e1 : p = 0 := by omega
      have e2 : s = 0 := by omega
      subst e1 e2
      exact ⟨0, rfl, rfl⟩
    · rw [l_1, decide_eq_true_eq] at a3
      have hq := (Rch_q hA a5).2
      have e1 : p0 = 0 := by omega
      have e2 : s0 = 0 := by omega
      subst e1 e2
      have e3 : p = npt m k (t + 1) 0 := by omega
      have e4 : s = q := by omega
      subst e4
      exact ⟨t + 1, e3.symm, a5⟩
  · rintro ⟨t, h1, h2⟩
    cases t with
    | zero =>
      have e1 : p = 0 := h1.symm
      have e2 : 0 = s := h2
      exact Or.inl (by omega)
    | succ t =>
      exact Or.inr ⟨0, 0, t, s, by omega, hn0, by rw [l_1]; rfl, by rw [h1], h2⟩
theorem lasso_in (hA : AOK n g e) (hR : RP M a n g e) (ha : a < 6) (hm : m ≤ 8) (hk : 0 < k) (hk2 : k ≤ 8) (hn0 : 0 < n) {all : Int64} (hall : ∀ i, i < 64 → (bl all i = true ↔ Rch n e m u k v 1 i)) {p : Nat} (hp : p < m + k) : ∃ r, lp (b_M_lasso_42 (nI a) (nI m) u (nI k) v ((1 : Int64) ||| all) (nI p) M) 0 = some r ∧ ((r = .inr true ∧ ∃ s, s < n ∧ Gn n g e m u k v p s) ∨ ∃ s, r = .inl s ∧ ∀ s, s < n → ¬ Gn n g e m u k v p s) := by
  have hn := hA.1
  refine lp_for n (fun c s => s = nI c ∧ ∀ t, t < c → ¬ Gn n g e m u k v p t) _ (fun c s hc h => ?_) (fun s h => ?_) (k := 0) ⟨rfl, fun t ht => by omega⟩ (by omega) (by omega)
  · obtain ⟨rfl, h2⟩ := h
    have next : ¬ Gn n g e m u k v p c → ∀ t, t < c + 1 → ¬ Gn n g e m u k v p t := fun hne t ht => by
      by_cases et : t = c
      · subst et; exact hne
      · exact h2 t (by omega)
    unfold b_M_lasso_42
    rw [ck_of (sz_in ha), nI_clamp (show a < 2 ^ 31 by omega)]
    rw [if_lt hc (by omega) hR.1, bd_some, ck_of (gd_in ha), i4, nI_add]
    have hr0 := reach0 (u := u) (v := v) hA hk (by omega) hn0 hall hp hc
    cases hg : g c
    · rw [if_neg (by rw [b_tst1 _ (by omega), hR.2.1 c hc, hg]; simp)]
      exact Or.inl ⟨_, rfl, nI_inc c, next (fun h => by rw [h.1] at hg; cases hg)⟩
    · rw [if_pos (by rw [b_tst1 _ (by omega), hR.2.1 c hc, hg])]
      cases hb : bl ((1 : Int64) ||| all) (4 * p + c)
      · rw [if_pos ((lg_0 _ _).mpr ((l_and_bit (by omega) _).mpr hb))]
        exact Or.inl ⟨_, rfl, nI_inc c, next (fun h => by rw [hr0.mpr h.2.1] at hb; cases hb)⟩
      · rw [if_neg (fun h => by rw [(l_and_bit (by omega) _).mp ((lg_0 _ _).mp h)] at hb; cases hb)]
        obtain ⟨r, a1, a2⟩ := allBehind_eq (u := u) (v := v) hA hR ha ((1 : Int64) <<< ((nI (4 * p + c)).toInt64 &&& 63)) hm hk hk2
        rw [a1, bd_some]
        have hcyc : bl r (4 * p + c) = true ↔ ∃ t, npt m k (t + 1) p = p ∧ pth e (lw (Lt m u k v) m k (t + 1) p) c c := by
          rw [a2 _ (by omega)]
          constructor
          · rintro ⟨p0, s0, t, q, b1, b2, b3, b4, b5⟩
            have hq := (Rch_q hA b5).2
            rw [l_bit (by omega) (by omega), decide_eq_true_eq] at b3
            have e1 : p0 = p := by omega
            have e2 : s0 = c := by omega
            subst e1 e2
            have e3 : npt m k (t + 1) p0 = p0 := by omega
            have e4 : q = s0 := by omega
            subst e4
            exact ⟨t, e3, b5⟩
          · rintro ⟨t, b1, b2⟩
            exact ⟨p, c, t, c, hp, hc, by rw [l_bit (by omega) (by omega)]; simp, by rw [b1], b2⟩
        cases hb2 : bl r (4 * p + c)
        · rw [if_pos ((lg_0 _ _).mpr ((l_and_bit (by omega) _).mpr hb2))]
          exact Or.inl ⟨_, rfl, nI_inc c, next (fun h => by rw [hcyc.mpr h.2.2] at hb2; cases hb2)⟩
        · rw [if_neg (fun h => by rw [(l_and_bit (by omega) _).mp ((lg_0 _ _).mp h)] at hb2; cases hb2)]
          exact Or.inr ⟨_, rfl, Or.inl ⟨rfl, c, hc, hg, hr0.mp hb, hcyc.mp hb2⟩⟩
  · obtain ⟨rfl, h2⟩ := h
    refine ⟨.inl (nI n), ?_, Or.inr ⟨_, rfl, h2⟩⟩
    unfold b_M_lasso_42
    rw [ck_of (sz_in ha), nI_clamp (show a < 2 ^ 31 by omega)]
    rw [if_ge (Nat.le_refl n) (by omega) hR.1]
/-- the reference's lasso is Tk -/
theorem lasso_eq (hA : AOK n g e) (hR : RP M a n g e) (ha : a < 6) (hm : m ≤ 8) (hk : 0 < k) (hk2 : k ≤ 8) : ∃ b, m_M_lasso (nI a) (nI m) u (nI k) v M = some b ∧ (b = true ↔ Tk e g (wl u m) (wl v k)) := by
  have hn := hA.1
  unfold m_M_lasso
  rw [ck_of (sz_in ha), nI_clamp (show a < 2 ^ 31 by omega), hR.1]
  by_cases h0 : n = 0
  · subst h0
    rw [if_pos nI_0]
    refine ⟨false, rfl, fun h => (by cases h), fun h => ?_⟩
    have := pth_start hA h
    omega
  · rw [if_neg (nI_ne0 (by omega) (by omega))]
    have hn0 : 0 < n := by omega
    obtain ⟨all, h1, h2⟩ := allBehind_eq (u := u) (v := v) hA hR ha 1 hm hk hk2
    rw [h1, bd_some]
    have h : ∃ r, lp (b_M_lasso_30 (nI a) (nI m) u (nI k) v ((1 : Int64) ||| all) M) (nI m) = some r ∧ ((r = .inr true ∧ ∃ p s, m ≤ p ∧ p < m + k ∧ s < n ∧ Gn n g e m u k v p s) ∨ ∃ s, r = .inl s ∧ ∀ p, m ≤ p → p < m + k → ∀ s, s < n → ¬ Gn n g e m u k v p s) := by
      refine lp_for (m + k) (fun c s => s = nI c ∧ m ≤ c ∧ ∀ p, m ≤ p → p < c → ∀ s, s < n → ¬ Gn n g e m u k v p s) _ (fun c s hc h => ?_) (fun s h => ?_) (k := m) ⟨rfl, Nat.le_refl m, fun p h3 h4 => by omega⟩ (by omega) (by omega)
      · obtain ⟨rfl, hmc, h3⟩ := h
        unfold b_M_lasso_30
        rw [if_lt hc (by omega) (nI_add m k)]
        obtain ⟨r, h4, ⟨rfl, s, h5, h6⟩ | ⟨s, rfl, h5⟩⟩ := lasso_in (u := u) (v := v) hA hR ha hm hk hk2 hn0 h2 hc
        · rw [h4]
          exact Or.inr ⟨_, rfl, Or.inl ⟨rfl, c, s, hmc, hc, h5, h6⟩⟩
        · rw [h4]
          refine Or.inl ⟨_, rfl, nI_inc c, by omega, fun p a1 a2 => ?_⟩
          by_cases ep : p = c
          · subst ep; exact h5
          · exact h3 p a1 (by omega)
      · obtain ⟨rfl, -, h3⟩ := h
        refine ⟨.inl (nI (m + k)), ?_, Or.inr ⟨_, rfl, h3⟩⟩
        unfold b_M_lasso_30
        rw [if_ge (Nat.le_refl (m + k)) (by omega) (nI_add m k)]
    have key : (∃ p s, m ≤ p ∧ p < m + k ∧ s < n ∧ Gn n g e m u k v p s) ↔ Tk e g (wl u m) (wl v k) := by
      rw [← Gl_Tk u v hk]
      constructor
      · rintro ⟨p, s, a1, a2, -, a3⟩
        exact ⟨p, s, a1, a2, a3⟩
      · rintro ⟨p, s, a1, a2, a3⟩
        refine ⟨p, s, a1, a2, ?_, a3⟩
        obtain ⟨-, -, t, -, h⟩ := a3
        exact (Rch_q hA h).1
    obtain ⟨r, h4, ⟨rfl, h5⟩ | ⟨s, rfl, h5⟩⟩ := h
    · rw [h4]
      exact ⟨true, rfl, fun _ => key.mp h5, fun _ => rfl⟩
    · rw [h4]
      refine ⟨false, rfl, fun h => (by cases h), fun h => ?_⟩
      obtain ⟨p, s, a1, a2, a3, a4⟩ := key.mpr h
      exact absurd a4 (h5 p a1 a2 s a3)
end ALB
