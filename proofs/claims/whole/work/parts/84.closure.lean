/-! the reference's closure of a word's digits: what is taken when the word is repeated -/
def bo (x y : Nat) : Nat := if x = 0 ∨ y = 0 then 0 else max x y
theorem bo_pos {x y : Nat} : 0 < bo x y ↔ 0 < x ∧ 0 < y := by
  unfold bo
  split <;> omega
theorem bo_ge {x y : Nat} (hx : 0 < x) (hy : 0 < y) : bo x y = max x y := if_neg (by omega)
theorem bo_le {x y : Nat} (hx : x ≤ 2) (hy : y ≤ 2) : bo x y ≤ 2 := by
  unfold bo
  split <;> omega
theorem bo_two {x y : Nat} (hx : x ≤ 2) (hy : y ≤ 2) (h : bo x y = 2) : (0 < x ∧ 0 < y) ∧ (x = 2 ∨ y = 2) := by
  have h0 := bo_pos.mp (show 0 < bo x y by omega)
  rw [bo_ge h0.1 h0.2] at h
  omega
def DG (M : Mm) (d : Nat → Nat → Nat) : Prop := ∀ s t, s < 3 → t < 3 → M.1 (1, 20) (3 * s + t) = nI (d s t)
def up (d : Nat → Nat → Nat) (k s t : Nat) : Nat → Nat → Nat := fun s' t' => if s' = s ∧ t' = t then max (d s t) (bo (d s k) (d k t)) else d s' t'
theorem DG_put {M : Mm} {d : Nat → Nat → Nat} (h : DG M d) {s t : Nat} (ht : t < 3) (v : Nat) : DG (uI M (1, 20) (3 * s + t) (nI v)) (fun s' t' => if s' = s ∧ t' = t then v else d s' t') := fun s' t' hs' ht' => by
  show _ = nI (if s' = s ∧ t' = t then v else d s' t')
  by_cases e : s' = s ∧ t' = t
  · rw [if_pos e, e.1, e.2]
    exact uI_at _ _ _ _
  · rw [if_neg e, uI_off _ _ _ (by omega)]
    exact h s' t' hs' ht'
theorem i4k (k : Nat) : (4 : Int32) * nI k = nI (4 * k) := i4 k
theorem close_step {A : Mm} {d : Nat → Nat → Nat} {n k s t : Nat} (hn : n ≤ 3) (hk : k < 3) (hs : s < 3) (ht : t < n) (hd : ∀ s t, s < 3 → t < 3 → d s t ≤ 2) (hG : DG A d) : ∃ B, b_M_taken_30 (nI n) (nI k) (nI s) (nI t, A) = some (.inl (nI t + 1, B)) ∧ DG B (up d k s t) ∧ Frm (fun z => z = (1, 20)) A B := by
  have ht3 : t < 3 := by omega
  have c1 := hG s k hs hk
  have c2 := hG k t hk ht3
  have c3 := hG s t hs ht3
  have b1 : inb (nI (3 * s + k)) (lenI 20) = true := in20 (by omega)
  have b2 : inb (nI (3 * k + t)) (lenI 20) = true := in20 (by omega)
  have b3 : inb (nI (3 * s + t)) (lenI 20) = true := in20 (by omega)
  have l1 := hd s k hs hk
  have l2 := hd k t hk ht3
  have l3 := hd s t hs ht3
  unfold b_M_taken_30
  dsimp only
  rw [if_lt ht (by omega) rfl, i3s, ck_of b1, nI_clamp (show 3 * s + k < 2 ^ 31 by omega), bd_some, i3s, ck_of b2, nI_clamp (show 3 * k + t < 2 ^ 31 by omega), bd_some, c1, c2, i3s, nI_clamp (show 3 * s + t < 2 ^ 31 by omega), c3]
  generalize hx : d s k = x at l1
  generalize hy : d k t = y at l2
  generalize hz : d s t = z at l3
  have fin : ∀ v, v = max z (bo x y) → ∃ B, (some (Sum.inl (nI t + 1, uI A (1, 20) (3 * s + t) (nI v))) : Option ((Int32 × Mm) ⊕ (Int32 × Mm))) = some (.inl (nI t + 1, B)) ∧ DG B (up d k s t) ∧ Frm (fun z => z = (1, 20)) A B := fun v hv => by
    refine ⟨_, rfl, ?_, Frm.uI A _ _ rfl⟩
    have := DG_put hG (s := s) ht3 v
    intro s' t' h1 h2
    have := this s' t' h1 h2
    rw [this]
    show nI (if s' = s ∧ t' = t then v else d s' t') = nI (if s' = s ∧ t' = t then max (d s t) (bo (d s k) (d k t)) else d s' t')
    rw [hx, hy, hz, hv]
  by_cases h0 : x = 0
  · have hb : bo x y = 0 := if_pos (Or.inl h0)
    rw [if_pos (show nI x = 0 by rw [h0]; rfl), ck_of b3, if_pos (nI_pos' (by omega)), ck_of b3, ck_of b3, bd_some]
    exact fin z (by rw [hb]; omega)
  · rw [if_neg (nI_ne0 (by omega) (by omega))]
    by_cases h1 : y = 0
    · have hb : bo x y = 0 := if_pos (Or.inr h1)
      rw [if_pos (show nI y = 0 by rw [h1]; rfl), ck_of b3, if_pos (nI_pos' (by omega)), ck_of b3, ck_of b3, bd_some]
      exact fin z (by rw [hb]; omega)
    · rw [if_neg (nI_ne0 (by omega) (by omega))]
      have hb := bo_ge (x := x) (y := y) (by omega) (by omega)
      by_cases h2 : x ≤ y
      · rw [if_pos (nI_le h2 (by omega)), ck_of b3]
        by_cases h3 : y ≤ z
        · rw [if_pos (nI_le h3 (by omega)), ck_of b3, ck_of b3, bd_some]
          exact fin z (by rw [hb]; omega)
        · rw [if_neg (nI_ge (by omega) (by omega)), ck_of b3, bd_some]
          exact fin y (by rw [hb]; omega)
      · rw [if_neg (nI_ge (by omega) (by omega)), ck_of b3]
        by_cases h3 : x ≤ z
        · rw [if_pos (nI_le h3 (by omega)), ck_of b3, ck_of b3, bd_some]
          exact fin z (by rw [hb]; omega)
        · rw [if_neg (nI_ge (by omega) (by omega)), ck_of b3, bd_some]
          exact fin x (by rw [hb]; omega)
/-- each digit is justified by ways of the word again and again -/
def Pg (P : Int32) (s t : Nat) : Prop := ∃ c x, (s = c ∨ pl (rE P) s c) ∧ rG P c x = true ∧ (x = t ∨ pl (rE P) x t)
def Sn (P : Int32) (d : Nat → Nat → Nat) : Prop := ∀ s t, s < 3 → t < 3 → d s t ≤ 2 ∧ (0 < d s t → pl (rE P) s t) ∧ (d s t = 2 → Pg P s t)
theorem Sn_up {P : Int32} {d : Nat → Nat → Nat} (h : Sn P d) {k s t : Nat} (hk : k < 3) (hs : s < 3) (ht : t < 3) : Sn P (up d k s t) := fun s' t' hs' ht' => by
  obtain ⟨a1, a2, a3⟩ := h s k hs hk
  obtain ⟨b1, b2, b3⟩ := h k t hk ht
  obtain ⟨c1, c2, c3⟩ := h s t hs ht
  unfold up
  by_cases e : s' = s ∧ t' = t
  · obtain ⟨rfl, rfl⟩ := e
    rw [if_pos ⟨rfl, rfl⟩]
    have hle := bo_le a1 b1
    refine ⟨by omega, fun h0 => ?_, fun h2 => ?_⟩
    · by_cases h1 : 0 < d s' t'
      · exact c2 h1
      · obtain ⟨x1, x2⟩ := bo_pos.mp (show 0 < bo (d s' k) (d k t') by omega)
        exact pl_t (a2 x1) (b2 x2)
    · by_cases h1 : d s' t' = 2
      · exact c3 h1
      · obtain ⟨⟨x1, x2⟩, x3⟩ := bo_two a1 b1 (show bo (d s' k) (d k t') = 2 by omega)
        rcases x3 with x3 | x3
        · obtain ⟨c, x, e1, e2, e3⟩ := a3 x3
          refine ⟨c, x, e1, e2, Or.inr ?_⟩
          rcases e3 with rfl | e3
          · exact b2 x2
          · exact pl_t e3 (b2 x2)
        · obtain ⟨c, x, e1, e2, e3⟩ := b3 x3
          refine ⟨c, x, Or.inr ?_, e2, e3⟩
          rcases e1 with rfl | e1
          · exact a2 x1
          · exact pl_t (a2 x1) e1
  · rw [if_neg e]
    exact h s' t' hs' ht'
theorem close_row {A : Mm} {P : Int32} {d0 d : Nat → Nat → Nat} {n k s : Nat} (hn : n ≤ 3) (hk : k < 3) (hs : s < n) (hS : Sn P d) (hG : DG A d) (hge : ∀ s t, s < 3 → t < 3 → d0 s t ≤ d s t) (hdone : ∀ s', s' < s → ∀ t, t < n → 0 < d0 s' k → 0 < d0 k t → max (d0 s' k) (d0 k t) ≤ d s' t) : ∃ r, lp (b_M_taken_30 (nI n) (nI k) (nI s)) (0, A) = some r ∧ ∃ d', DG r.2 d' ∧ Sn P d' ∧ (∀ s t, s < 3 → t < 3 → d0 s t ≤ d' s t) ∧ (∀ s', s' < s + 1 → ∀ t, t < n → 0 < d0 s' k → 0 < d0 k t → max (d0 s' k) (d0 k t) ≤ d' s' t) ∧ Frm (fun z => z = (1, 20)) A r.2 := by
  refine lp_for n (fun m st => st.1 = nI m ∧ ∃ d', DG st.2 d' ∧ Sn P d' ∧ (∀ s t, s < 3 → t < 3 → d0 s t ≤ d' s t) ∧ (∀ s', s' < s → ∀ t, t < n → 0 < d0 s' k → 0 < d0 k t → max (d0 s' k) (d0 k t) ≤ d' s' t) ∧ (∀ t, t < m → 0 < d0 s k → 0 < d0 k t → max (d0 s k) (d0 k t) ≤ d' s t) ∧ Frm (fun z => z = (1, 20)) A st.2) _ (fun m st hm h => ?_) (fun st h => ?_) (k := 0) ⟨rfl, d, hG, hS, hge, hdone, fun t ht => by omega, Frm.rfl⟩ (by omega) (by omega)
  · obtain ⟨i0, B⟩ := st
    obtain ⟨rfl, d1, h1, h2, h3, h4, h5, h6⟩ := h
    have h6 : Frm (fun z => z = (1, 20)) A B := h6
    obtain ⟨C, c1, c2, c3⟩ := close_step hn hk (show s < 3 by omega) hm (fun s t hs ht => (h2 s t hs ht).1) h1
    have hup : ∀ s' t', d1 s' t' ≤ up d1 k s m s' t' := fun s' t' => by
      unfold up
      split
      · rename_i e; obtain ⟨rfl, rfl⟩ := e; omega
      · omega
    refine Or.inl ⟨_, c1, nI_inc m, up d1 k s m, c2, Sn_up h2 hk (by omega) (by omega), fun s' t' hs' ht' => Nat.le_trans (h3 s' t' hs' ht') (hup s' t'), fun s' hs' t' ht' e1 e2 => Nat.le_trans (h4 s' hs' t' ht' e1 e2) (hup s' t'), fun t' ht' e1 e2 => ?_, h6.trans c3⟩
    by_cases e : t' = m
    · subst e
      have g1 := h3 s k (by omega) hk
      have g2 := h3 k t' hk (by omega)
      have hb := bo_ge (x := d1 s k) (y := d1 k t') (by omega) (by omega)
      show _ ≤ (if s = s ∧ t' = t' then max (d1 s t') (bo (d1 s k) (d1 k t')) else d1 s t')
      rw [if_pos ⟨rfl, rfl⟩, hb]
      omega
    · exact Nat.le_trans (h5 t' (by omega) e1 e2) (hup s t')
  · obtain ⟨i0, B⟩ := st
    obtain ⟨rfl, d1, h1, h2, h3, h4, h5, h6⟩ := h
    refine ⟨(nI n, B), ?_, d1, h1, h2, h3, fun s' hs' t ht e1 e2 => ?_, h6⟩
    · unfold b_M_taken_30
      dsimp only
      rw [if_ge (Nat.le_refl _) (by omega) rfl]
    · by_cases e : s' = s
      · subst e; exact h5 t ht e1 e2
      · exact h4 s' (by omega) t ht e1 e2
theorem close_k {A : Mm} {P : Int32} {d0 : Nat → Nat → Nat} {n k : Nat} (hn : n ≤ 3) (hk : k < 3) (hS : Sn P d0) (hG : DG A d0) : ∃ r, lp (b_M_taken_21 (nI n) (nI k)) (0, A) = some r ∧ ∃ d', DG r.2 d' ∧ Sn P d' ∧ (∀ s t, s < 3 → t < 3 → d0 s t ≤ d' s t) ∧ (∀ s', s' < n → ∀ t, t < n → 0 < d0 s' k → 0 < d0 k t → max (d0 s' k) (d0 k t) ≤ d' s' t) ∧ Frm (fun z => z = (1, 20)) A r.2 := by
  refine lp_for n (fun m st => st.1 = nI m ∧ ∃ d', DG st.2 d' ∧ Sn P d' ∧ (∀ s t, s < 3 → t < 3 → d0 s t ≤ d' s t) ∧ (∀ s', s' < m → ∀ t, t < n → 0 < d0 s' k → 0 < d0 k t → max (d0 s' k) (d0 k t) ≤ d' s' t) ∧ Frm (fun z => z = (1, 20)) A st.2) _ (fun m st hm h => ?_) (fun st h => ?_) (k := 0) ⟨rfl, d0, hG, hS, fun _ _ _ _ => Nat.le_refl _, fun s' hs' => by omega, Frm.rfl⟩ (by omega) (by omega)
  · obtain ⟨i0, B⟩ := st
    obtain ⟨rfl, d1, h1, h2, h3, h4, h5⟩ := h
    have h5 : Frm (fun z => z = (1, 20)) A B := h5
    obtain ⟨r, r1, d2, r2, r3, r4, r5, r6⟩ := close_row hn hk hm h2 h1 h3 h4
    refine Or.inl ⟨(nI (m + 1), r.2), ?_, rfl, d2, r2, r3, r4, r5, h5.trans r6⟩
    unfold b_M_taken_21
    dsimp only
    rw [if_lt hm (by omega) rfl, r1, bd_some, nI_inc]
  · obtain ⟨i0, B⟩ := st
    obtain ⟨rfl, d1, h1⟩ := h
    refine ⟨(nI n, B), ?_, d1, h1⟩
    unfold b_M_taken_21
    dsimp only
    rw [if_ge (Nat.le_refl _) (by omega) rfl]
section TAKN
variable {n : Nat} {g : Nat → Bool} {e : Ed} {v : List Nat} {P : Int32}
theorem pl_3 (hn : n ≤ 3) (hA : AOK n g e) (hP : Pw n g e (fun _ => True) v P) {s t : Nat} (h : pl (rE P) s t) : wk (rE P) 3 s t = true ∧ s < n ∧ t < n := by
  have h4 : ∀ p q, rE P p q = true → p < 4 ∧ q < 4 := fun _ _ h => rE_lt h
  have hlt : ∀ p q, pl (rE P) p q → p < n ∧ q < n := fun p q h => by
    obtain ⟨k, h⟩ := h
    induction k generalizing p with
    | zero =>
      obtain ⟨a, -, b⟩ := (hP.1 p q).mp h
      exact ⟨a, pth_lt hA _ a b⟩
    | succ k ih =>
      obtain ⟨m, h1, h2⟩ := h
      exact ⟨((hP.1 p m).mp h1).1, (ih m h2).2⟩
  have h5 : wst (wk (rE P) 3) 3 s t = true := (wst4 h4 s t).mpr h
  refine ⟨?_, hlt s t h⟩
  unfold wst at h5
  rw [Bool.or_eq_true, Bool.and_eq_true] at h5
  rcases h5 with h5 | ⟨-, h5⟩
  · exact h5
  · have : pl (rE P) 3 t := (wst4 h4 3 t).mp (wst_le h5)
    have := (hlt _ _ this).1
    omega
theorem rG_rE (hP : Pw n g e (fun _ => True) v P) {x y : Nat} (h : rG P x y = true) : rE P x y = true := by
  obtain ⟨a, b, c⟩ := (hP.2 x y).mp h
  exact (hP.1 x y).mpr ⟨a, b, gth_pth _ _ _ c⟩
theorem close_all {A : Mm} {d0 : Nat → Nat → Nat} (hn : n ≤ 3) (hA : AOK n g e) (hP : Pw n g e (fun _ => True) v P) (hG : DG A d0) (hd : ∀ s t, s < 3 → t < 3 → d0 s t ≤ 2 ∧ (0 < d0 s t ↔ rE P s t = true) ∧ (d0 s t = 2 ↔ rG P s t = true)) : ∃ r, lp (b_M_taken_7 (nI n)) (0, A) = some r ∧ ∃ d, DG r.2 d ∧ Frm (fun z => z = (1, 20)) A r.2 ∧ (∀ s t, s < 3 → t < 3 → d s t ≤ 2) ∧ (∀ s t, s < 3 → t < 3 → (0 < d s t ↔ pl (rE P) s t)) ∧ ∀ s t, s < 3 → t < 3 → (d s t = 2 ↔ Pg P s t) := by
  have h4 : ∀ p q, rE P p q = true → p < 4 ∧ q < 4 := fun _ _ h => rE_lt h
  have gl : ∀ {c x : Nat}, rG P c x = true → c < n ∧ x < n := fun {c x} h => by
    obtain ⟨a, -, b⟩ := (hP.2 c x).mp h
    exact ⟨a, pth_lt hA _ a (gth_pth _ _ _ b)⟩
  have h : ∃ r, lp (b_M_taken_7 (nI n)) (0, A) = some r ∧ ∃ d, DG r.2 d ∧ Sn P d ∧ Frm (fun z => z = (1, 20)) A r.2 ∧ (∀ s t, s < 3 → t < 3 → wk (rE P) (min 9 3) s t = true → 0 < d s t) ∧ (∀ c x, rG P c x = true → d c x = 2) ∧ (∀ c x t, rG P c x = true → pl (rE P) x t → 3 + x < 9 → d c t = 2) ∧ (∀ s c x t, pl (rE P) s c → rG P c x = true → (x = t ∨ pl (rE P) x t) → 6 + c < 9 → d s t = 2) := by
    refine lp_for 9 (fun j st => st.1 = nI j ∧ ∃ d, DG st.2 d ∧ Sn P d ∧ Frm (fun z => z = (1, 20)) A st.2 ∧ (∀ s t, s < 3 → t < 3 → wk (rE P) (min j 3) s t = true → 0 < d s t) ∧ (∀ c x, rG P c x = true → d c x = 2) ∧ (∀ c x t, rG P c x = true → pl (rE P) x t → 3 + x < j → d c t = 2) ∧ (∀ s c x t, pl (rE P) s c → rG P c x = true → (x = t ∨ pl (rE P) x t) → 6 + c < j → d s t = 2)) _ (fun j st hj h => ?_) (fun st h => ?_) (k := 0) ⟨rfl, d0, hG, fun s t hs ht => ⟨(hd s t hs ht).1, fun h => pl_1 ((hd s t hs ht).2.1.mp h), fun h => ⟨s, t, Or.inl rfl, (hd s t hs ht).2.2.mp h, Or.inl rfl⟩⟩, Frm.rfl, fun s t hs ht h => (hd s t hs ht).2.1.mpr h, fun c x h => by have := gl h; exact (hd c x (by omega) (by omega)).2.2.mpr h, fun c x t _ _ h => by omega, fun s c x t _ _ _ h => by omega⟩ (by omega) (by omega)
    · obtain ⟨i0, B⟩ := st
      obtain ⟨rfl, d, h1, h2, h3, h5, h6, h7, h8⟩ := h
      have h3 : Frm (fun z => z = (1, 20)) A B := h3
      obtain ⟨r, r1, d', r2, r3, r4, r5, r6⟩ := close_k (k := j % 3) hn (by omega) h2 h1
      have two : ∀ s t, s < 3 → t < 3 → 2 ≤ d' s t → d' s t = 2 := fun s t hs ht h => by have := (r3 s t hs ht).1; omega
      have pos3 : 3 ≤ j → ∀ s t, pl (rE P) s t → 0 < d s t := fun hj3 s t h => by
        obtain ⟨p1, p2, p3⟩ := pl_3 hn hA hP h
        exact h5 s t (by omega) (by omega) (by rw [show min j 3 = 3 by omega]; exact p1)
      refine Or.inl ⟨(nI (j + 1), r.2), ?_, rfl, d', r2, r3, h3.trans r6, fun s t hs ht hw => ?_, fun c x h => ?_, fun c x t h hp hx => ?_, fun s c x t hp h hx hc => ?_⟩
      · unfold b_M_taken_7
        dsimp only
        rw [if_lt (x := 9) (B := 9) hj (by omega) rfl, show (3 : Int32) = nI 3 from rfl, pk_rem (by omega) (by omega) (by omega), r1, bd_some, nI_inc]
      · by_cases hj3 : j < 3
        · rw [show min (j + 1) 3 = j + 1 by omega] at hw
          have hw : wst (wk (rE P) j) j s t = true := hw
          unfold wst at hw
          rw [Bool.or_eq_true, Bool.and_eq_true] at hw
          rw [show min j 3 = j by omega] at h5
          rcases hw with hw | ⟨hw1, hw2⟩
          · exact Nat.lt_of_lt_of_le (h5 s t hs ht hw) (r4 s t hs ht)
          · have e1 := h5 s j hs hj3 hw1
            have e2 := h5 j t hj3 ht hw2
            have q1 := (h2 s j hs hj3).2.1 e1
            have q2 := (h2 j t hj3 ht).2.1 e2
            have e3 := r5 s (pl_3 hn hA hP q1).2.1 t (pl_3 hn hA hP q2).2.2
            rw [show j % 3 = j by omega] at e3
            have := e3 e1 e2
            omega
        · rw [show min (j + 1) 3 = min j 3 by omega] at hw
          exact Nat.lt_of_lt_of_le (h5 s t hs ht hw) (r4 s t hs ht)
      · have hcx := gl h
        have := r4 c x (by omega) (by omega)
        rw [h6 c x h] at this
        exact two c x (by omega) (by omega) this
      · have hcx := gl h
        obtain ⟨-, -, p3⟩ := pl_3 hn hA hP hp
        by_cases e1 : 3 + x < j
        · have := r4 c t (by omega) (by omega)
          rw [h7 c x t h hp e1] at this
          exact two c t (by omega) (by omega) this
        · have ej : j = 3 + x := by omega
          have e3 := r5 c (by omega) t p3
          rw [show j % 3 = x by omega, h6 c x h] at e3
          have := e3 (by omega) (pos3 (by omega) x t hp)
          exact two c t (by omega) (by omega) (by omega)
      · have hcx := gl h
        obtain ⟨-, p2, -⟩ := pl_3 hn hA hP hp
        have htn : t < n := by
          rcases hx with rfl | hx
          · exact hcx.2
          · exact (pl_3 hn hA hP hx).2.2
        by_cases e1 : 6 + c < j
        · have := r4 s t (by omega) (by omega)
          rw [h8 s c x t hp h hx e1] at this
          exact two s t (by omega) (by omega) this
        · have ej : j = 6 + c := by omega
          have e2 : d c t = 2 := by
            rcases hx with rfl | hx
            · exact h6 c x h
            · exact h7 c x t h hx (by omega)
          have e3 := r5 s p2 t htn
          rw [show j % 3 = c by omega, e2] at e3
          have := e3 (pos3 (by omega) s c hp) (by omega)
          exact two s t (by omega) (by omega) (by omega)
    · obtain ⟨i0, B⟩ := st
      obtain ⟨rfl, h1⟩ := h
      refine ⟨(nI 9, B), ?_, h1⟩
      unfold b_M_taken_7
      dsimp only
      rw [if_ge (x := 9) (B := 9) (Nat.le_refl _) (by omega) rfl]
  obtain ⟨r, r1, d, r2, r3, r4, r5, r6, r7, r8⟩ := h
  refine ⟨r, r1, d, r2, r4, fun s t hs ht => (r3 s t hs ht).1, fun s t hs ht => ⟨(r3 s t hs ht).2.1, fun h => ?_⟩, fun s t hs ht => ⟨(r3 s t hs ht).2.2, fun h => ?_⟩⟩
  · exact r5 s t hs ht (pl_3 hn hA hP h).1
  · obtain ⟨c, x, e1, e2, e3⟩ := h
    have hcx := gl e2
    rcases e1 with rfl | e1
    · rcases e3 with rfl | e3
      · exact r6 s x e2
      · exact r7 s x t e2 e3 (by omega)
    · exact r8 s c x t e1 e2 e3 (by omega)
/-- the states that the closure tells -/
theorem Rp_close (hn : n ≤ 3) (hA : AOK n g e) (hP : Pw n g e (fun _ => True) v P) (q : Nat) : Rp P q ↔ ∃ t, t < n ∧ Pg P t t ∧ (q = t ∨ pl (rE P) q t) := by
  constructor
  · rintro ⟨c, x, h1, h2, h3⟩
    have hc : c < n := ((hP.2 c x).mp h2).1
    exact ⟨c, hc, ⟨c, x, Or.inl rfl, h2, Or.inr h3⟩, Or.inr h1⟩
  · rintro ⟨t, -, ⟨c, x, e1, e2, e3⟩, e4⟩
    have xE := rG_rE hP e2
    have tc : x = c ∨ pl (rE P) x c := by
      rcases e3 with rfl | e3
      · exact e1
      · rcases e1 with rfl | e1
        · exact Or.inr e3
        · exact Or.inr (pl_t e3 e1)
    have xc : pl (rE P) x c := by
      rcases tc with rfl | h
      · exact pl_1 xE
      · exact h
    have cc : pl (rE P) c c := pl_t (pl_1 xE) xc
    refine ⟨c, x, ?_, e2, xc⟩
    rcases e4 with rfl | e4
    · rcases e1 with rfl | e1
      · exact cc
      · exact e1
    · rcases e1 with rfl | e1
      · exact e4
      · exact pl_t e4 e1
theorem tell_in {M : Mm} {d : Nat → Nat → Nat} {s : Nat} {al : Int32} (hn : n ≤ 3) (hs : s < n) (hG : DG M d) (hd : ∀ s t, s < 3 → t < 3 → d s t ≤ 2) : ∃ r, lp (b_M_taken_172 (nI n) (nI s) M) (al, 0) = some r ∧ ∀ q, q < 32 → (bt r.1 q = true ↔ bt al q = true ∨ (q = s ∧ ∃ t, t < n ∧ d t t = 2 ∧ (s = t ∨ 0 < d s t))) := by
  refine lp_for n (fun k st => st.2 = nI k ∧ ∀ q, q < 32 → (bt st.1 q = true ↔ bt al q = true ∨ (q = s ∧ ∃ t, t < k ∧ d t t = 2 ∧ (s = t ∨ 0 < d s t)))) _ (fun k st hk h => ?_) (fun st h => ?_) (k := 0) ⟨rfl, fun q hq => ?_⟩ (by omega) (by omega)
  · obtain ⟨x, i0⟩ := st
    obtain ⟨rfl, h2⟩ := h
    have h2 : ∀ q, q < 32 → (bt x q = true ↔ bt al q = true ∨ (q = s ∧ ∃ t, t < k ∧ d t t = 2 ∧ (s = t ∨ 0 < d s t))) := h2
    have c1 := hG k k (by omega) (by omega)
    have c2 := hG s k (by omega) (by omega)
    have l1 := hd k k (by omega) (by omega)
    have l2 := hd s k (by omega) (by omega)
    have no : ¬ (d k k = 2 ∧ (s = k ∨ 0 < d s k)) → (∃ s' : Int32 × Int32, some (Sum.inl (x, nI k + 1)) = (some (Sum.inl s') : Option ((Int32 × Int32) ⊕ (Int32 × Int32))) ∧ s'.2 = nI (k + 1) ∧ ∀ q, q < 32 → (bt s'.1 q = true ↔ bt al q = true ∨ (q = s ∧ ∃ t, t < k + 1 ∧ d t t = 2 ∧ (s = t ∨ 0 < d s t)))) := fun hne => by
      refine ⟨_, rfl, nI_inc k, fun q hq => ?_⟩
      show bt x q = true ↔ _
      rw [h2 q hq]
      constructor
      · rintro (h | ⟨h1, t, h3, h4⟩)
        · exact Or.inl h
        · exact Or.inr ⟨h1, t, by omega, h4⟩
      · rintro (h | ⟨h1, t, h3, h4⟩)
        · exact Or.inl h
        · by_cases e : t = k
          · subst e; exact absurd h4 hne
          · exact Or.inr ⟨h1, t, by omega, h4⟩
    have yes : (d k k = 2 ∧ (s = k ∨ 0 < d s k)) → (∃ s' : Int32 × Int32, some (Sum.inl (x ||| ((1 : Int32) <<< (nI s &&& 31)), nI k + 1)) = (some (Sum.inl s') : Option ((Int32 × Int32) ⊕ (Int32 × Int32))) ∧ s'.2 = nI (k + 1) ∧ ∀ q, q < 32 → (bt s'.1 q = true ↔ bt al q = true ∨ (q = s ∧ ∃ t, t < k + 1 ∧ d t t = 2 ∧ (s = t ∨ 0 < d s t)))) := fun hy => by
      refine ⟨_, rfl, nI_inc k, fun q hq => ?_⟩
      show bt (x ||| ((1 : Int32) <<< (nI s &&& 31))) q = true ↔ _
      rw [b_or, b_bit (by omega), Bool.or_eq_true, h2 q hq, decide_eq_true_eq]
      constructor
      · rintro ((h | ⟨h1, t, h3, h4⟩) | h)
        · exact Or.inl h
        · exact Or.inr ⟨h1, t, by omega, h4⟩
        · exact Or.inr ⟨h, k, by omega, hy⟩
      · rintro (h | ⟨h1, -⟩)
        · exact Or.inl (Or.inl h)
        · exact Or.inr h1
    unfold b_M_taken_172
    dsimp only
    rw [if_lt hk (by omega) rfl, i4, ck_of (in20 (by omega)), nI_clamp (show 4 * k < 2 ^ 31 by omega), show 4 * k = 3 * k + k by omega, c1]
    by_cases e1 : d k k = 2
    · rw [if_pos (show nI (d k k) = (2 : Int32) by rw [e1]; rfl)]
      by_cases e2 : s = k
      · rw [if_pos (by rw [e2])]
        exact Or.inl (yes ⟨e1, Or.inl e2⟩)
      · rw [if_neg (fun h => e2 ((nI_eq (by omega) (by omega)).mp h)), i3s, ck_of (in20 (by omega)), nI_clamp (show 3 * s + k < 2 ^ 31 by omega), c2]
        by_cases e3 : 0 < d s k
        · rw [if_neg (nI_nle e3 (by omega))]
          exact Or.inl (yes ⟨e1, Or.inr e3⟩)
        · rw [if_pos (by rw [show d s k = 0 by omega]; exact Int32.le_refl _)]
          exact Or.inl (no fun h => by rcases h.2 with h | h; exact e2 h; exact e3 h)
    · rw [if_neg (show ¬ nI (d k k) = (2 : Int32) from fun h => e1 ((nI_eq (by omega) (by decide)).mp (show nI (d k k) = nI 2 from h)))]
      exact Or.inl (no fun h => e1 h.1)
  · obtain ⟨x, i0⟩ := st
    obtain ⟨rfl, h2⟩ := h
    refine ⟨(x, nI n), ?_, h2⟩
    unfold b_M_taken_172
    dsimp only
    rw [if_ge (Nat.le_refl _) (by omega) rfl]
  · show bt al q = true ↔ _
    constructor
    · intro h; exact Or.inl h
    · rintro (h | ⟨-, t, h, -⟩)
      · exact h
      · omega
theorem taken_eq (hn : n ≤ 3) (hA : AOK n g e) (hP : Pw n g e (fun _ => True) v P) (M : Mm) : ∃ r M', m_M_taken (nI (nw n g e v)) (nI n) M = some (r, M') ∧ (∀ q, q < 32 → (bt r q = true ↔ Rp P q)) ∧ Frm (fun z => z = (1, 20)) M M' := by
  obtain ⟨A, a1, a2, a3⟩ := spread_eq (nw_lt n g e v) M
  have hG : DG A (fun s t => dn n g e v (3 * s + t)) := fun s t hs ht => by
    rw [a2 _ (by omega), nw_d3 n g e v (by omega)]
  obtain ⟨r, r1, d, r2, r3, hd2, r4, r5⟩ := close_all hn hA hP hG (fun s t hs ht => ⟨dn_le _ _ _ _ _, by
    by_cases hsn : s < n
    · rw [dn_at hsn ht, dg_pos, hP.1]
      exact ⟨fun h => ⟨hsn, trivial, h⟩, fun h => h.2.2⟩
    · have : dn n g e v (3 * s + t) = 0 := if_neg (by omega)
      rw [this, hP.1]
      exact ⟨fun h => absurd h (Nat.lt_irrefl 0), fun h => absurd h.1 hsn⟩, by
    by_cases hsn : s < n
    · rw [dn_at hsn ht, dg_two, hP.2]
      exact ⟨fun h => ⟨hsn, trivial, h⟩, fun h => h.2.2⟩
    · have : dn n g e v (3 * s + t) = 0 := if_neg (by omega)
      rw [this, hP.2]
      exact ⟨fun h => by omega, fun h => absurd h.1 hsn⟩⟩)
  have h : ∃ r', lp (b_M_taken_163 (nI n) r.2) (0, 0) = some r' ∧ ∀ q, q < 32 → (bt r'.1 q = true ↔ q < n ∧ ∃ t, t < n ∧ d t t = 2 ∧ (q = t ∨ 0 < d q t)) := by
    refine lp_for n (fun k st => st.2 = nI k ∧ ∀ q, q < 32 → (bt st.1 q = true ↔ q < k ∧ ∃ t, t < n ∧ d t t = 2 ∧ (q = t ∨ 0 < d q t))) _ (fun k st hk h => ?_) (fun st h => ?_) (k := 0) ⟨rfl, fun q hq => ?_⟩ (by omega) (by omega)
    · obtain ⟨x, i0⟩ := st
      obtain ⟨rfl, h2⟩ := h
      have h2 : ∀ q, q < 32 → (bt x q = true ↔ q < k ∧ ∃ t, t < n ∧ d t t = 2 ∧ (q = t ∨ 0 < d q t)) := h2
      obtain ⟨w, w1, w2⟩ := tell_in (al := x) hn hk r2 hd2
      refine Or.inl ⟨(w.1, nI (k + 1)), ?_, rfl, fun q hq => ?_⟩
      · unfold b_M_taken_163
        dsimp only
        rw [if_lt hk (by omega) rfl, w1, bd_some, nI_inc]
      · show bt w.1 q = true ↔ _
        rw [w2 q hq, h2 q hq]
        constructor
        · rintro (⟨h1, h3⟩ | ⟨rfl, h3⟩)
          · exact ⟨by omega, h3⟩
          · exact ⟨by omega, h3⟩
        · rintro ⟨h1, h3⟩
          by_cases e : q = k
          · subst e; exact Or.inr ⟨rfl, h3⟩
          · exact Or.inl ⟨by omega, h3⟩
    · obtain ⟨x, i0⟩ := st
      obtain ⟨rfl, h2⟩ := h
      refine ⟨(x, nI n), ?_, h2⟩
      unfold b_M_taken_163
      dsimp only
      rw [if_ge (Nat.le_refl _) (by omega) rfl]
    · show bt 0 q = true ↔ _
      rw [b_0]
      constructor
      · intro h; cases h
      · rintro ⟨h, -⟩; omega
  obtain ⟨r', s1, s2⟩ := h
  refine ⟨r'.1, r.2, ?_, fun q hq => ?_, a3.trans r3⟩
  · unfold m_M_taken
    rw [a1, bd_some, r1, bd_some, s1, bd_some]
  · rw [s2 q hq, Rp_close hn hA hP]
    constructor
    · rintro ⟨h1, t, h2, h3, h4⟩
      refine ⟨t, h2, (r5 t t (by omega) (by omega)).mp h3, h4.imp id fun h => (r4 q t (by omega) (by omega)).mp h⟩
    · rintro ⟨t, h2, h3, h4⟩
      have hqn : q < n := by
        rcases h4 with rfl | h4
        · exact h2
        · exact (pl_3 hn hA hP h4).2.1
      exact ⟨hqn, t, h2, (r5 t t (by omega) (by omega)).mpr h3, h4.imp id fun h => (r4 q t (by omega) (by omega)).mpr h⟩
end TAKN
