/-! states that a run which is in good states without end can be in: usefulStates and living -/
/-- an edge by any letter -/
def ae (n : Nat) (e : Ed) : Rl := fun x y => decide (x < n) && (e 0 x y || e 1 x y)
theorem ae_lt {n : Nat} {g : Nat → Bool} {e : Ed} (hA : AOK n g e) {x y : Nat} (h : ae n e x y = true) : x < n ∧ y < n := by
  simp only [ae, Bool.and_eq_true, Bool.or_eq_true, decide_eq_true_eq] at h
  rcases h with ⟨h1, h2 | h2⟩
  · exact ⟨h1, (hA.2.2 _ _ _ h2).2.2⟩
  · exact ⟨h1, (hA.2.2 _ _ _ h2).2.2⟩
theorem plae_lt {n : Nat} {g : Nat → Bool} {e : Ed} (hA : AOK n g e) {x y : Nat} (h : pl (ae n e) x y) : x < n ∧ y < n := by
  obtain ⟨k, h⟩ := h
  induction k generalizing x with
  | zero => exact ae_lt hA h
  | succ k ih =>
    obtain ⟨m, h1, h2⟩ := h
    exact ⟨(ae_lt hA h1).1, (ih h2).2⟩
/-- reached from the start, and leads to a good state on a cycle -/
def Lv (n : Nat) (g : Nat → Bool) (e : Ed) (s : Nat) : Prop := s < n ∧ (s = 0 ∨ pl (ae n e) 0 s) ∧ ∃ t, g t = true ∧ pl (ae n e) t t ∧ (s = t ∨ pl (ae n e) s t)
theorem Lv_0 {n : Nat} {g : Nat → Bool} {e : Ed} {s : Nat} (h : Lv n g e s) : Lv n g e 0 := by
  obtain ⟨h1, h2, t, h3, h4, h5⟩ := h
  refine ⟨by omega, Or.inl rfl, t, h3, h4, ?_⟩
  rcases h2 with rfl | h2
  · exact h5
  · rcases h5 with rfl | h5
    · exact Or.inr h2
    · exact Or.inr (pl_t h2 h5)
theorem pl_last {R : Rl} {x y : Nat} (h : pl R x y) : ∃ c, R c y = true ∧ (c = x ∨ pl R x c) := by
  obtain ⟨k, h⟩ := h
  induction k generalizing x with
  | zero => exact ⟨x, h, Or.inl rfl⟩
  | succ k ih =>
    obtain ⟨m, h1, h2⟩ := h
    obtain ⟨c, h3, h4⟩ := ih h2
    refine ⟨c, h3, Or.inr ?_⟩
    rcases h4 with rfl | h4
    · exact pl_1 h1
    · exact pl_t (pl_1 h1) h4
theorem useful_eq {M : Mm} {j n : Nat} {g : Nat → Bool} {e : Ed} (hj : j < 7) (hA : AOK n g e) (hC : CP M j n g e) : ∃ r, m_A_usefulStates j M = some r ∧ ∀ i, bt r i = true ↔ Lv n g e i := by
  have hn := hA.1
  obtain ⟨r1, h1, h2⟩ := emptyAll_eq hA hC
  obtain ⟨r2, h3, h4, h5⟩ := longer_eq hj hA hC r1 (l := 0) (by omega)
  obtain ⟨r3, h6, h7, h8⟩ := longer_eq hj hA hC r1 (l := 1) (by omega)
  have hE : ∀ x y, rE (r2 ||| r3) x y = ae n e x y := fun x y => by
    have hor : rE (r2 ||| r3) x y = (rE r2 x y || rE r3 x y) := by
      unfold rE; rw [b_or]
      cases decide (x < 4) <;> cases decide (y < 4) <;> simp
    rw [hor, Bool.eq_iff_iff, Bool.or_eq_true, h4 x y, h7 x y]
    simp only [ae, Bool.and_eq_true, Bool.or_eq_true, decide_eq_true_eq]
    constructor
    · rintro (⟨hx, m, a, b⟩ | ⟨hx, m, a, b⟩)
      · obtain ⟨-, -, rfl⟩ := (h2.1 x m).mp a
        exact ⟨hx, Or.inl b⟩
      · obtain ⟨-, -, rfl⟩ := (h2.1 x m).mp a
        exact ⟨hx, Or.inr b⟩
    · rintro ⟨hx, h | h⟩
      · exact Or.inl ⟨hx, x, (h2.1 x x).mpr ⟨hx, trivial, rfl⟩, h⟩
      · exact Or.inr ⟨hx, x, (h2.1 x x).mpr ⟨hx, trivial, rfl⟩, h⟩
  have hG : ∀ x y, rG (r2 ||| r3) x y = true ↔ ae n e x y = true ∧ g y = true := fun x y => by
    have hor : rG (r2 ||| r3) x y = (rG r2 x y || rG r3 x y) := by
      unfold rG; rw [b_or]
      cases decide (x < 4) <;> cases decide (y < 4) <;> simp
    have hno : ∀ m, ¬ rG r1 x m = true := fun m h => ((h2.2 x m).mp h).2.2.elim
    rw [hor, Bool.or_eq_true, h5 x y, h8 x y]
    simp only [ae, Bool.and_eq_true, Bool.or_eq_true, decide_eq_true_eq]
    constructor
    · rintro (⟨hx, ⟨m, a, -⟩ | ⟨⟨m, a, b⟩, c⟩⟩ | ⟨hx, ⟨m, a, -⟩ | ⟨⟨m, a, b⟩, c⟩⟩)
      · exact absurd a (hno m)
      · obtain ⟨-, -, rfl⟩ := (h2.1 x m).mp a
        exact ⟨⟨hx, Or.inl b⟩, c⟩
      · exact absurd a (hno m)
      · obtain ⟨-, -, rfl⟩ := (h2.1 x m).mp a
        exact ⟨⟨hx, Or.inr b⟩, c⟩
    · rintro ⟨⟨hx, h | h⟩, c⟩
      · exact Or.inl ⟨hx, Or.inr ⟨⟨x, (h2.1 x x).mpr ⟨hx, trivial, rfl⟩, h⟩, c⟩⟩
      · exact Or.inr ⟨hx, Or.inr ⟨⟨x, (h2.1 x x).mpr ⟨hx, trivial, rfl⟩, h⟩, c⟩⟩
  have hEf : rE (r2 ||| r3) = ae n e := funext fun x => funext fun y => hE x y
  obtain ⟨r4, a1, a2⟩ := chained_eq (r2 ||| r3)
  obtain ⟨r6, a3, a4⟩ := takenRepeated_eq (r2 ||| r3)
  rw [hEf] at a2
  refine ⟨((1 : Int32) ||| en r4 0) &&& r6, ?_, fun i => ?_⟩
  · unfold m_A_usefulStates
    rw [h1, bd_some, show (0 : Int32) = nI 0 from rfl, h3, bd_some, show (1 : Int32) = nI 1 from rfl, h6, bd_some, a1, bd_some, fromStart_eq, bd_some, a3, bd_some]
  · rw [b_and, Bool.and_eq_true, a4 i, b_or, Bool.or_eq_true, b_1, decide_eq_true_eq, bt_en r4 (by omega), Bool.and_eq_true, decide_eq_true_eq]
    have hr : ∀ i, i < 4 → (bt r4 (8 * 0 + i) = true ↔ pl (ae n e) 0 i) := fun i hi => by rw [← a2 0 i, rE_bt (by omega) hi]
    unfold Rp
    rw [hEf]
    constructor
    · rintro ⟨h0, hi, c, x, b1, b2, b3⟩
      obtain ⟨hc, hgx⟩ := (hG c x).mp b2
      refine ⟨(plae_lt hA b1).1, ?_, x, hgx, pl_t b3 (pl_1 hc), Or.inr (pl_t b1 (pl_1 hc))⟩
      rcases h0 with h0 | ⟨-, h0⟩
      · exact Or.inl h0
      · exact Or.inr ((hr i hi).mp h0)
    · rintro ⟨hi, h0, t, b1, b2, b3⟩
      obtain ⟨c, hc, hct⟩ := pl_last b2
      have tc : pl (ae n e) t c := by
        rcases hct with rfl | h
        · exact b2
        · exact h
      refine ⟨?_, by omega, c, t, ?_, (hG c t).mpr ⟨hc, b1⟩, tc⟩
      · rcases h0 with h0 | h0
        · exact Or.inl h0
        · exact Or.inr ⟨by omega, (hr i (by omega)).mpr h0⟩
      · rcases b3 with rfl | b3
        · exact tc
        · exact pl_t b3 tc
/-! the reference -/
section LVR
variable {M : Mm} {a n : Nat} {g : Nat → Bool} {e : Ed}
def nx (M : Mm) (a s : Nat) : Int32 := M.1 (1, 16) (8 * a + s) ||| M.1 (1, 16) (8 * a + 4 + s)
theorem nx_bit (hR : RP M a n g e) {s : Nat} (hs : s < n) {q : Nat} (hq : q < 32) : bt (nx M a s) q = ae n e s q := by
  unfold nx
  have h0 := hR.2.2 0 (by omega) s hs q hq
  have h1 := hR.2.2 1 (by omega) s hs q hq
  rw [show 8 * a + 4 * 0 + s = 8 * a + s by omega] at h0
  rw [show 8 * a + 4 * 1 + s = 8 * a + 4 + s by omega] at h1
  rw [b_or, h0, h1]
  simp [ae, hs]
theorem ix0 (a s : Nat) : (8 : Int32) * nI a + nI s = nI (8 * a + s) := by rw [i8, nI_add]
theorem ix1 (a s : Nat) : (8 : Int32) * nI a + 4 + nI s = nI (8 * a + 4 + s) := by rw [i84, nI_add]
theorem ix_in {x : Nat} (h : x < 48) : inb (nI x) (lenI 16) = true := vp_inb (vp_in_nI (N := 48) h (by omega))
/-- one round over the states: nothing lost, nothing but what is ahead, the successors of all that was there -/
theorem ahead_in (hA : AOK n g e) (hR : RP M a n g e) (ha : a < 6) {f : Nat} (c : Int32) (hc : ∀ q, q < 32 → bt c q = true → pl (ae n e) f q) : ∃ r, lp (b_M_ahead_38 (nI a) M) (c, 0) = some r ∧ (∀ q, q < 32 → bt c q = true → bt r.1 q = true) ∧ (∀ q, q < 32 → bt r.1 q = true → pl (ae n e) f q) ∧ ∀ s q, s < n → q < 32 → bt c s = true → ae n e s q = true → bt r.1 q = true := by
  have hn := hA.1
  refine lp_for n (fun k s => s.2 = nI k ∧ (∀ q, q < 32 → bt c q = true → bt s.1 q = true) ∧ (∀ q, q < 32 → bt s.1 q = true → pl (ae n e) f q) ∧ ∀ t q, t < k → q < 32 → bt c t = true → ae n e t q = true → bt s.1 q = true) _ (fun k s hk h => ?_) (fun s h => ?_) (k := 0) ⟨rfl, fun _ _ h => h, hc, fun t q ht => by omega⟩ (by omega) (by omega)
  · obtain ⟨d, i0⟩ := s
    obtain ⟨rfl, h2, h3, h4⟩ := h
    have h2 : ∀ q, q < 32 → bt c q = true → bt d q = true := h2
    have h3 : ∀ q, q < 32 → bt d q = true → pl (ae n e) f q := h3
    have h4 : ∀ t q, t < k → q < 32 → bt c t = true → ae n e t q = true → bt d q = true := h4
    unfold b_M_ahead_38
    rw [ck_of (sz_in ha), nI_clamp (show a < 2 ^ 31 by omega)]
    show (∃ s', (if M.1 (1, 18) a ≤ nI k then _ else _) = _ ∧ _) ∨ (∃ r, (if M.1 (1, 18) a ≤ nI k then _ else _) = _ ∧ _)
    rw [if_lt hk (by omega) hR.1]
    cases hb : bt d k
    · rw [if_neg (by rw [b_tst1 _ (by omega), hb]; simp)]
      refine Or.inl ⟨(d, nI k + 1), rfl, nI_inc k, h2, h3, fun t q ht hq h5 h6 => ?_⟩
      by_cases et : t = k
      · subst et
        rw [h2 t (by omega) h5] at hb; cases hb
      · exact h4 t q (by omega) hq h5 h6
    · rw [if_pos (by rw [b_tst1 _ (by omega), hb]), ix0, ix1, ck_of (ix_in (by omega)), ck_of (ix_in (by omega)), bd_some, nI_clamp (by omega), nI_clamp (by omega)]
      have e1 : (d ||| M.1 (1, 16) (8 * a + k)) ||| M.1 (1, 16) (8 * a + 4 + k) = d ||| nx M a k := by
        refine b_ext fun i _ => ?_
        unfold nx
        simp only [b_or, Bool.or_assoc]
      refine Or.inl ⟨((d ||| M.1 (1, 16) (8 * a + k)) ||| M.1 (1, 16) (8 * a + 4 + k), nI k + 1), rfl, nI_inc k, fun q hq h5 => ?_, fun q hq h5 => ?_, fun t q ht hq h5 h6 => ?_⟩
      · show bt ((d ||| M.1 (1, 16) (8 * a + k)) ||| M.1 (1, 16) (8 * a + 4 + k)) q = true
        rw [e1, b_or, h2 q hq h5]; rfl
      · have h5 : bt ((d ||| M.1 (1, 16) (8 * a + k)) ||| M.1 (1, 16) (8 * a + 4 + k)) q = true := h5
        rw [e1, b_or, Bool.or_eq_true, nx_bit hR hk hq] at h5
        rcases h5 with h5 | h5
        · exact h3 q hq h5
        · exact pl_t (h3 k (by omega) hb) (pl_1 h5)
      · show bt ((d ||| M.1 (1, 16) (8 * a + k)) ||| M.1 (1, 16) (8 * a + 4 + k)) q = true
        rw [e1, b_or, Bool.or_eq_true]
        by_cases et : t = k
        · subst et
          exact Or.inr (by rw [nx_bit hR hk hq]; exact h6)
        · exact Or.inl (h4 t q (by omega) hq h5 h6)
  · obtain ⟨d, i0⟩ := s
    obtain ⟨rfl, h2, h3, h4⟩ := h
    refine ⟨(d, nI n), ?_, h2, h3, h4⟩
    unfold b_M_ahead_38
    rw [ck_of (sz_in ha), nI_clamp (show a < 2 ^ 31 by omega)]
    show (if M.1 (1, 18) a ≤ nI n then _ else _) = _
    rw [if_ge (Nat.le_refl n) (by omega) hR.1]
def c4 (x : Int32) : Nat := (List.range 4).countP (fun i => bt x i)
theorem ahead_eq (hA : AOK n g e) (hR : RP M a n g e) (ha : a < 6) {f : Nat} (hf : f < n) : ∃ r, m_M_ahead (nI a) (nI f) M = some r ∧ ∀ q, q < 32 → (bt r q = true ↔ pl (ae n e) f q) := by
  have hn := hA.1
  have h : ∃ r, lp (b_M_ahead_29 (nI a) M) (nx M a f, 0) = some r ∧ ((∀ q, q < 32 → bt r.1 q = true → pl (ae n e) f q) ∧ (∀ q, q < 32 → bt (nx M a f) q = true → bt r.1 q = true) ∧ ∀ s q, s < n → q < 32 → bt r.1 s = true → ae n e s q = true → bt r.1 q = true) := by
    refine lp_for 4 (fun k s => s.2 = nI k ∧ (∀ q, q < 32 → bt s.1 q = true → pl (ae n e) f q) ∧ (∀ q, q < 32 → bt (nx M a f) q = true → bt s.1 q = true) ∧ ((∀ s0 q, s0 < n → q < 32 → bt s.1 s0 = true → ae n e s0 q = true → bt s.1 q = true) ∨ k + 1 ≤ c4 s.1)) _ (fun k s hk h => ?_) (fun s h => ?_) (k := 0) ⟨rfl, fun q hq h => pl_1 (by rw [← nx_bit hR hf hq]; exact h), fun _ _ h => h, ?_⟩ (by omega) (by omega)
    · obtain ⟨d, i0⟩ := s
      obtain ⟨rfl, h2, h3, h4⟩ := h
      have h2 : ∀ q, q < 32 → bt d q = true → pl (ae n e) f q := h2
      obtain ⟨r, a1, a2, a3, a4⟩ := ahead_in hA hR ha d h2
      refine Or.inl ⟨(r.1, nI (k + 1)), ?_, rfl, a3, fun q hq h => a2 q hq (h3 q hq h), ?_⟩
      · unfold b_M_ahead_29
        show (if (4 : Int32) ≤ nI k then _ else _) = _
        rw [if_lt (x := 4) (B := 4) hk (by decide) rfl]
        show bd (lp (b_M_ahead_38 (nI a) M) (d, 0)) _ = _
        rw [a1, bd_some]
        show some (Sum.inl (r.1, nI k + 1)) = _
        rw [nI_inc]
      · -- closed stays closed; else one more
        by_cases hcl : ∀ s0 q, s0 < n → q < 32 → bt d s0 = true → ae n e s0 q = true → bt d q = true
        · left
          intro s0 q hs hq b1 b2
          have b1 : bt r.1 s0 = true := b1
          -- what is in r is ahead of f, and d holds all that is ahead of f
          have hall : ∀ q, pl (ae n e) f q → bt d q = true := by
            intro q hp
            obtain ⟨kk, hp⟩ := hp
            have gen : ∀ (kk x : Nat), (bt d x = true ∧ x < n ∨ x = f) → ∀ q, pw (ae n e) kk x q → bt d q = true := by
              intro kk
              induction kk with
              | zero =>
                intro x hx q hq2
                have hq2 : ae n e x q = true := hq2
                have hqn := (ae_lt hA hq2).2
                rcases hx with ⟨hx1, hx2⟩ | rfl
                · exact hcl x q hx2 (by omega) hx1 hq2
                · exact h3 q (by omega) (by rw [nx_bit hR hf (by omega)]; exact hq2)
              | succ kk ih =>
                rintro x hx q ⟨y, y1, y2⟩
                have hyn := (ae_lt hA y1).2
                refine ih y (Or.inl ⟨?_, hyn⟩) q y2
                rcases hx with ⟨hx1, hx2⟩ | rfl
                · exact hcl x y hx2 (by omega) hx1 y1
                · exact h3 y (by omega) (by rw [nx_bit hR hf (by omega)]; exact y1)
            exact gen kk f (Or.inr rfl) q hp
          exact a2 q hq (hall q (pl_t (a3 s0 (by omega) b1) (pl_1 b2)))
        · right
          have hk1 : k + 1 ≤ c4 d := by
            rcases h4 with h4 | h4
            · exact absurd h4 hcl
            · exact h4
          have : ∃ s0 q, s0 < n ∧ q < 32 ∧ bt d s0 = true ∧ ae n e s0 q = true ∧ bt d q = false := by
            apply Classical.byContradiction
            intro hno
            refine hcl fun s0 q b1 b2 b3 b4 => ?_
            cases hb : bt d q
            · exact absurd ⟨s0, q, b1, b2, b3, b4, hb⟩ hno
            · rfl
          obtain ⟨s0, q, b1, b2, b3, b4, b5⟩ := this
          have hqn := (ae_lt hA b4).2
          have hlt : c4 d < c4 r.1 := by
            refine countP_lt _ _ _ (fun x hx h => a2 x (by have := List.mem_range.mp hx; omega) h) ⟨q, List.mem_range.mpr (by omega), a4 s0 q b1 b2 b3 b4, b5⟩
          show k + 1 + 1 ≤ c4 r.1
          omega
    · obtain ⟨d, i0⟩ := s
      obtain ⟨rfl, h2, h3, h4⟩ := h
      refine ⟨(d, nI 4), ?_, h2, h3, ?_⟩
      · unfold b_M_ahead_29
        show (if (4 : Int32) ≤ nI 4 then _ else _) = _
        rw [if_ge (x := 4) (B := 4) (Nat.le_refl 4) (by decide) rfl]
      · rcases h4 with h4 | h4
        · exact h4
        · have h4 : 4 + 1 ≤ c4 d := h4
          have := List.countP_le_length (p := fun i => bt d i) (l := List.range 4)
          have : c4 d ≤ 4 := by simpa [c4] using this
          omega
    · by_cases hz : ∃ s, s < 4 ∧ bt (nx M a f) s = true
      · right
        obtain ⟨s, hs, hb⟩ := hz
        show 0 + 1 ≤ c4 (nx M a f)
        have : 0 < c4 (nx M a f) := List.countP_pos_iff.mpr ⟨s, List.mem_range.mpr hs, hb⟩
        omega
      · left
        intro s0 q hs hq b1 _
        exact absurd ⟨s0, by omega, b1⟩ hz
  obtain ⟨r, h1, h2, h3, h4⟩ := h
  refine ⟨r.1, ?_, fun q hq => ⟨h2 q hq, ?_⟩⟩
  · unfold m_M_ahead
    rw [ix0, ix1, ck_of (ix_in (by omega)), ck_of (ix_in (by omega)), bd_some, nI_clamp (by omega), nI_clamp (by omega)]
    show bd (lp (b_M_ahead_29 (nI a) M) (nx M a f, 0)) _ = _
    rw [h1, bd_some]
  · rintro ⟨k, hp⟩
    have gen : ∀ (kk x : Nat), (bt r.1 x = true ∧ x < n ∨ x = f) → ∀ q, pw (ae n e) kk x q → bt r.1 q = true := by
      intro kk
      induction kk with
      | zero =>
        intro x hx q hq2
        have hq2 : ae n e x q = true := hq2
        have hqn := (ae_lt hA hq2).2
        rcases hx with ⟨hx1, hx2⟩ | rfl
        · exact h4 x q hx2 (by omega) hx1 hq2
        · exact h3 q (by omega) (by rw [nx_bit hR hf (by omega)]; exact hq2)
      | succ kk ih =>
        rintro x hx q ⟨y, y1, y2⟩
        have hyn := (ae_lt hA y1).2
        refine ih y (Or.inl ⟨?_, hyn⟩) q y2
        rcases hx with ⟨hx1, hx2⟩ | rfl
        · exact h4 x y hx2 (by omega) hx1 y1
        · exact h3 y (by omega) (by rw [nx_bit hR hf (by omega)]; exact y1)
    exact gen k f (Or.inr rfl) q hp
end LVR
