/-! the empty word's passage, a word's passage, the class's lasso -/
theorem b_one (o : Int32) {k i : Nat} (hk : k < 32) (hi : i < 32) : bt ((o >>> (nI k &&& 31)) &&& 1) i = (decide (i = 0) && bt o k) := by
  rw [b_and, b_1, b_sshr k hk o hi]
  by_cases e : i = 0
  · subst e; simp [hk]
  · simp [e]
theorem ones : ∀ n, n < 5 → ∀ i, i < 32 → bt (((1 : Int32) <<< (nI n &&& 31)) - 1) i = decide (i < n) := by decide +kernel
theorem empty_eq {M : Mm} {j n : Nat} {g : Nat → Bool} {e : Ed} (hA : AOK n g e) (hC : CP M j n g e) (o : Int32) : ∃ r, m_A_emptyPassage j o M = some r ∧ Pw n g e (fun x => bt o x = true) [] r := by
  have hn := hA.1
  have h : ∃ r, lp (b_A_emptyPassage_4 j o M) (0, 0) = some r ∧ ∀ i, i < 32 → (bt r.1 i = true ↔ ∃ k, k < n ∧ i = 9 * k ∧ bt o k = true) := by
    refine lp_for n (fun k s => s.2 = nI k ∧ ∀ i, i < 32 → (bt s.1 i = true ↔ ∃ k', k' < k ∧ i = 9 * k' ∧ bt o k' = true)) _ (fun k s hk h => ?_) (fun s h => ?_) (k := 0) ⟨rfl, fun i hi => ?_⟩ (by omega) (by omega)
    · obtain ⟨c, i0⟩ := s
      obtain ⟨rfl, h2⟩ := h
      refine Or.inl ⟨(c ||| ((((o >>> (nI k &&& 31)) &&& 1) <<< (nI k &&& 31)) <<< (nI (8 * k) &&& 31)), nI (k + 1)), ?_, rfl, fun i hi => ?_⟩
      · unfold b_A_emptyPassage_4
        show (if M.1 (0, j) 0 ≤ nI k then _ else _) = _
        rw [if_lt hk (by omega) hC.1, bd_some, i8, nI_inc]
      · have hbit : bt ((((o >>> (nI k &&& 31)) &&& 1) <<< (nI k &&& 31)) <<< (nI (8 * k) &&& 31)) i = (decide (i = 9 * k) && bt o k) := by
          rw [b_shl (8 * k) (by omega) _ hi]
          by_cases e1 : 8 * k ≤ i
          · rw [b_shl k (by omega) _ (by omega)]
            by_cases e2 : k ≤ i - 8 * k
            · rw [b_one o (by omega) (by omega)]
              by_cases e3 : i = 9 * k
              · have : i - 8 * k - k = 0 := by omega
                simp [e1, e2, e3, this]
                rw [show 9 * k - 8 * k - k = 0 by omega]
                have e4 : k ≤ 9 * k - 8 * k := by omega
                simp [e4]
                intro; omega
              · have : ¬ i - 8 * k - k = 0 := by omega
                simp [e3, this]
            · have e3 : ¬ i = 9 * k := by omega
              simp [e2, e3]
          · have e3 : ¬ i = 9 * k := by omega
            simp [e1, e3]
        rw [b_or, Bool.or_eq_true, h2 i hi, hbit, Bool.and_eq_true, decide_eq_true_eq]
        constructor
        · rintro (⟨k', a, b, c⟩ | ⟨a, b⟩)
          · exact ⟨k', by omega, b, c⟩
          · exact ⟨k, by omega, a, b⟩
        · rintro ⟨k', a, b, c⟩
          by_cases e : k' = k
          · subst e; exact Or.inr ⟨b, c⟩
          · exact Or.inl ⟨k', by omega, b, c⟩
    · obtain ⟨c, i0⟩ := s
      obtain ⟨rfl, h2⟩ := h
      refine ⟨(c, nI n), ?_, h2⟩
      unfold b_A_emptyPassage_4
      show (if M.1 (0, j) 0 ≤ nI n then _ else _) = _
      rw [if_ge (Nat.le_refl n) (by omega) hC.1]
    · show bt 0 i = true ↔ _
      rw [b_0]
      constructor
      · intro h; cases h
      · rintro ⟨k, h, -⟩; omega
  obtain ⟨r, h1, h2⟩ := h
  refine ⟨r.1, ?_, fun x y => ?_, fun x y => ?_⟩
  · unfold m_A_emptyPassage
    rw [h1, bd_some]
  · constructor
    · intro h
      obtain ⟨hx, hy⟩ := rE_lt h
      rw [rE_bt hx hy, h2 _ (by omega)] at h
      obtain ⟨k, a, b, c⟩ := h
      have e1 : x = k := by omega
      have e2 : y = k := by omega
      subst e1
      exact ⟨a, c, e2.symm⟩
    · rintro ⟨hx, ho, hxy⟩
      have hxy : x = y := hxy
      subst hxy
      rw [rE_bt (by omega) (by omega), h2 _ (by omega)]
      exact ⟨x, hx, by omega, ho⟩
  · constructor
    · intro h
      obtain ⟨hx, hy⟩ := rG_lt h
      rw [rG_bt hx hy, h2 _ (by omega)] at h
      obtain ⟨k, a, b, c⟩ := h
      rcases (show k = 0 ∨ k = 1 ∨ k = 2 ∨ k = 3 by omega) with rfl | rfl | rfl | rfl <;> omega
    · rintro ⟨-, -, h⟩
      exact h.elim
theorem Pw.all {n : Nat} {g : Nat → Bool} {e : Ed} {o : Nat → Prop} {w : List Nat} {P : Int32} (h : Pw n g e o w P) (ho : ∀ x, x < n → o x) : Pw n g e (fun _ => True) w P :=
  ⟨fun x y => (h.1 x y).trans ⟨fun ⟨a, _, b⟩ => ⟨a, trivial, b⟩, fun ⟨a, _, b⟩ => ⟨a, ho x a, b⟩⟩, fun x y => (h.2 x y).trans ⟨fun ⟨a, _, b⟩ => ⟨a, trivial, b⟩, fun ⟨a, _, b⟩ => ⟨a, ho x a, b⟩⟩⟩
theorem emptyAll_eq {M : Mm} {j n : Nat} {g : Nat → Bool} {e : Ed} (hA : AOK n g e) (hC : CP M j n g e) : ∃ r, m_A_emptyPassage j (((1 : Int32) <<< ((M.1 (0, j) 0) &&& 31)) - (1 : Int32)) M = some r ∧ Pw n g e (fun _ => True) [] r := by
  obtain ⟨r, h1, h2⟩ := empty_eq hA hC (((1 : Int32) <<< ((M.1 (0, j) 0) &&& 31)) - (1 : Int32))
  have hn := hA.1
  refine ⟨r, h1, h2.all fun x hx => ?_⟩
  rw [hC.1, ones n (by omega) x (by omega)]
  simp [hx]
/-- a bit as a letter; the letters of a number, the first is the highest bit -/
def lt1 (u : Int32) (k : Nat) : Nat := if bt u k = true then 1 else 0
def wl (u : Int32) : Nat → List Nat
  | 0 => []
  | m + 1 => lt1 u m :: wl u m
theorem lt1_lt (u : Int32) (k : Nat) : lt1 u k < 2 := by unfold lt1; split <;> omega
theorem bitI (u : Int32) {k : Nat} (hk : k < 32) : (u >>> (nI k &&& 31)) &&& 1 = nI (lt1 u k) := by
  refine b_ext fun i hi => ?_
  rw [b_one u hk hi]
  unfold lt1
  cases bt u k
  · show (decide (i = 0) && false) = bt 0 i
    rw [b_0]; simp
  · show (decide (i = 0) && true) = bt 1 i
    rw [b_1]; simp
theorem m1_eq (x : Int32) : x + (-1) = x - 1 := by
  rw [Int32.sub_eq_add_neg]
theorem m1_neg : (nI 0 - 1 : Int32) < 0 := by decide
theorem passageOf_eq {M : Mm} {j n : Nat} {g : Nat → Bool} {e : Ed} (hj : j < 7) (hA : AOK n g e) (hC : CP M j n g e) (u : Int32) {m : Nat} (hm : m < 32) : ∃ r, m_A_passageOf j (nI m) u M = some r ∧ Pw n g e (fun _ => True) (wl u m) r := by
  obtain ⟨r0, h1, h2⟩ := emptyAll_eq hA hC
  have h : ∃ r, lp (b_A_passageOf_18 j u M) (r0, nI m - 1) = some r ∧ Pw n g e (fun _ => True) (wl u m) r.1 := by
    refine lp_for m (fun i s => s.2 = nI (m - i) - 1 ∧ ∃ w, w ++ wl u (m - i) = wl u m ∧ Pw n g e (fun _ => True) w s.1) _ (fun i s hi h => ?_) (fun s h => ?_) (k := 0) ⟨rfl, [], rfl, h2⟩ (by omega) (by omega)
    · obtain ⟨c, i0⟩ := s
      obtain ⟨h3, w, h4, h5⟩ := h
      obtain ⟨k, hk⟩ : ∃ k, m - i = k + 1 := ⟨m - i - 1, by omega⟩
      have hk2 : m - (i + 1) = k := by omega
      rw [hk, nI_pred] at h3
      have h3 : i0 = nI k := h3
      subst h3
      rw [hk] at h4
      obtain ⟨r, h6, h7⟩ := longer_word hj hA hC h5 (lt1_lt u k)
      refine Or.inl ⟨(r, nI k - 1), ?_, by rw [hk2], w ++ [lt1 u k], ?_, h7⟩
      · unfold b_A_passageOf_18
        show (if nI k < 0 then _ else _) = _
        rw [if_neg (nI_pos (by omega))]
        show bd (m_A_longerPassage j c ((u >>> (nI k &&& 31)) &&& 1) M) _ = _
        rw [bitI u (by omega), h6, bd_some, m1_eq]
      · rw [hk2, List.append_assoc]
        exact h4
    · obtain ⟨c, i0⟩ := s
      obtain ⟨h3, w, h4, h5⟩ := h
      rw [Nat.sub_self] at h3 h4
      have h3 : i0 = nI 0 - 1 := h3
      subst h3
      refine ⟨(c, nI 0 - 1), ?_, ?_⟩
      · unfold b_A_passageOf_18
        show (if (nI 0 - 1 : Int32) < 0 then _ else _) = _
        rw [if_pos m1_neg]
      · have : w = wl u m := by simpa [wl] using h4
        rw [← this]; exact h5
  obtain ⟨r, h3, h4⟩ := h
  refine ⟨r.1, ?_, h4⟩
  unfold m_A_passageOf
  rw [h1, bd_some, h3, bd_some]
/-! the lasso by passages -/
theorem pth_rep {ed : Ed} {v : List Nat} : ∀ (i : Nat) {j p m q : Nat}, pth ed (rep v i) p m → pth ed (rep v j) m q → pth ed (rep v (i + j)) p q := by
  intro i j p m q h1 h2
  rw [rep_add]; exact pth_j h1 h2
theorem pth_one {ed : Ed} {v : List Nat} {p q : Nat} : pth ed (rep v 1) p q ↔ pth ed v p q := by
  show pth ed (v ++ []) p q ↔ _
  rw [List.append_nil]
theorem pl_rep {n : Nat} {g : Nat → Bool} {e : Ed} {v : List Nat} {P : Int32} (hA : AOK n g e) (hP : Pw n g e (fun _ => True) v P) (x y : Nat) : pl (rE P) x y ↔ x < n ∧ ∃ k, pth e (rep v (k + 1)) x y := by
  constructor
  · rintro ⟨k, h⟩
    induction k generalizing x with
    | zero =>
      obtain ⟨a, -, b⟩ := (hP.1 x y).mp h
      exact ⟨a, 0, pth_one.mpr b⟩
    | succ k ih =>
      obtain ⟨m, h1, h2⟩ := h
      obtain ⟨a, -, b⟩ := (hP.1 x m).mp h1
      obtain ⟨-, k', c⟩ := ih m h2
      refine ⟨a, k' + 1, ?_⟩
      show pth e (v ++ rep v (k' + 1)) x y
      exact pth_j b c
  · rintro ⟨hx, k, h⟩
    induction k generalizing x with
    | zero => exact pl_1 ((hP.1 x y).mpr ⟨hx, trivial, pth_one.mp h⟩)
    | succ k ih =>
      obtain ⟨m, a, b⟩ := (pth_app v (rep v (k + 1)) x y).mp h
      exact pl_t (pl_1 ((hP.1 x m).mpr ⟨hx, trivial, a⟩)) (ih m (pth_lt hA v hx a) b)
theorem gth_rep {ed : Ed} {gd : Nat → Bool} {v : List Nat} : ∀ (j : Nat) {p q : Nat}, gth ed gd (rep v j) p q → ∃ i i' y x, pth ed (rep v i) p y ∧ gth ed gd v y x ∧ pth ed (rep v i') x q
  | 0, _, _, h => h.elim
  | j + 1, p, q, h => by
    obtain ⟨m, ⟨a, b⟩ | ⟨a, b⟩⟩ := (gth_app v (rep v j) p q).mp h
    · exact ⟨0, j, p, m, rfl, a, b⟩
    · obtain ⟨i, i', y, x, h1, h2, h3⟩ := gth_rep j b
      exact ⟨i + 1, i', y, x, pth_j a h1, h2, h3⟩
/-- what the class's takenRepeated says of a word's passage -/
theorem Rp_iff {n : Nat} {g : Nat → Bool} {e : Ed} {v : List Nat} {P : Int32} (hA : AOK n g e) (hP : Pw n g e (fun _ => True) v P) (q : Nat) : Rp P q ↔ q < n ∧ ∃ c k j, pth e (rep v k) q c ∧ gth e g (rep v j) c c := by
  constructor
  · rintro ⟨c, x, h1, h2, h3⟩
    obtain ⟨hq, k, a⟩ := (pl_rep hA hP q c).mp h1
    obtain ⟨hc, -, b⟩ := (hP.2 c x).mp h2
    obtain ⟨-, k2, d⟩ := (pl_rep hA hP x c).mp h3
    refine ⟨hq, c, k + 1, k2 + 1 + 1, a, ?_⟩
    show gth e g (v ++ rep v (k2 + 1)) c c
    exact gth_l b d
  · rintro ⟨hq, c, k, j, h1, h2⟩
    obtain ⟨i, i', y, x, a, b, d⟩ := gth_rep j h2
    have hc := pth_lt hA _ hq h1
    have hy := pth_lt hA _ hc a
    have bv := gth_pth _ _ _ b
    have hx := pth_lt hA _ hy bv
    have xy : pth e (rep v (i' + i)) x y := pth_rep i' d a
    have cyc : pth e (rep v (1 + (i' + i))) y y := pth_rep 1 (pth_one.mpr bv) xy
    have xy2 : pth e (rep v ((i' + i) + (i' + i) + 1)) x y := by
      have := pth_rep (i' + i) xy cyc
      rw [show i' + i + (1 + (i' + i)) = i' + i + (i' + i) + 1 by omega] at this
      exact this
    have qy : pth e (rep v ((k + i) + (i' + i) + 1)) q y := by
      have h3 : pth e (rep v (k + i)) q y := pth_rep k h1 a
      have := pth_rep (k + i) h3 cyc
      rw [show k + i + (1 + (i' + i)) = k + i + (i' + i) + 1 by omega] at this
      exact this
    exact ⟨y, x, (pl_rep hA hP q y).mpr ⟨hq, _, qy⟩, (hP.2 y x).mpr ⟨hy, trivial, b⟩, (pl_rep hA hP x y).mpr ⟨hx, _, xy2⟩⟩
theorem pth_start {n : Nat} {g : Nat → Bool} {e : Ed} (hA : AOK n g e) {u v : List Nat} (h : Tk e g u v) : 0 < n := by
  obtain ⟨q, c, k, j, h1, h2, h3⟩ := h
  have up : ∀ (w : List Nat) {p q : Nat}, pth e w p q → q < n → p < n := by
    intro w
    cases w with
    | nil => intro p q h hq; cases h; exact hq
    | cons l w =>
      rintro p q ⟨m, a, -⟩ -
      exact (hA.2.2 l p m a).2.1
  have hc : c < n := by
    cases hj : rep v j with
    | nil => rw [hj] at h3; exact h3.elim
    | cons l w =>
      rw [hj] at h3
      obtain ⟨m, a, -⟩ := h3
      exact (hA.2.2 l c m a).2.1
  exact up u h1 (up _ h2 hc)
/-- the class's answer to a lasso -/
theorem lasso_class {n : Nat} {g : Nat → Bool} {e : Ed} {u v : List Nat} {P Q r : Int32} (hA : AOK n g e) (hP : Pw n g e (fun _ => True) u P) (hQ : Pw n g e (fun _ => True) v Q) (hr : ∀ i, bt r i = true ↔ i < 4 ∧ Rp Q i) : ¬ (en P 0 &&& r) = 0 ↔ Tk e g u v := by
  constructor
  · intro h
    have : ∃ c, bt (en P 0 &&& r) c = true := by
      apply Classical.byContradiction
      intro hn
      exact h (b_eq0.mpr fun i hi => by
        cases e : bt (en P 0 &&& r) i
        · rfl
        · exact absurd ⟨i, e⟩ hn)
    obtain ⟨q, hq⟩ := this
    rw [b_and, bt_en P (by omega), Bool.and_eq_true, Bool.and_eq_true, decide_eq_true_eq] at hq
    obtain ⟨⟨hq4, h1⟩, h2⟩ := hq
    have h3 : rE P 0 q = true := by rw [rE_bt (by omega) hq4]; exact h1
    obtain ⟨-, -, h4⟩ := (hP.1 0 q).mp h3
    obtain ⟨-, c, k, j, h5, h6⟩ := (Rp_iff hA hQ q).mp ((hr q).mp h2).2
    exact ⟨q, c, k, j, h4, h5, h6⟩
  · intro hT h0
    have hn := pth_start hA hT
    have hn4 := hA.1
    obtain ⟨q, c, k, j, h1, h2, h3⟩ := hT
    have hq := pth_lt hA _ hn h1
    have h4 := b_eq0.mp h0 q (by omega)
    have h5 : rE P 0 q = true := (hP.1 0 q).mpr ⟨hn, trivial, h1⟩
    rw [rE_bt (by omega) (by omega)] at h5
    rw [b_and, bt_en P (by omega), h5, (hr q).mpr ⟨by omega, (Rp_iff hA hQ q).mpr ⟨hq, c, k, j, h2, h3⟩⟩] at h4
    simp [show q < 4 by omega] at h4
