/-! the reference's digits: spread, longer -/
theorem uI_id (M : Mm) (c : Nat × Nat) (k : Nat) : uI M c k (M.1 c k) = M := by
  refine Prod.ext (funext fun c' => ?_) rfl
  by_cases e : c' = c
  · subst e
    rw [uI_self]
    funext i
    by_cases e2 : i = k
    · subst e2; exact pk_us
    · exact pk_un e2
  · exact uI_ne M k _ e
theorem in20 {k : Nat} (hk : k < 9) : inb (nI k) (lenI 20) = true := vp_inb (vp_in_nI (N := 9) hk (by omega))
theorem in21 {k : Nat} (hk : k < 9) : inb (nI k) (lenI 21) = true := vp_inb (vp_in_nI (N := 9) hk (by omega))
theorem i3 (k : Nat) : (3 : Int32) * nI k = nI (3 * k) := pk_mul 3 k
theorem i3s (s x : Nat) : (3 : Int32) * nI s + nI x = nI (3 * s + x) := by rw [i3, nI_add]
/-- a number's digits -/
def d3 (N k : Nat) : Nat := N / 3 ^ k % 3
theorem spread_eq {N : Nat} (hN : N < 19683) (M : Mm) : ∃ M', m_M_spread (nI N) M = some M' ∧ (∀ k, k < 9 → M'.1 (1, 20) k = nI (d3 N k)) ∧ Frm (fun z => z = (1, 20)) M M' := by
  have h : ∃ r, lp b_M_spread_4 (nI N, 0, M) = some r ∧ ((∀ k, k < 9 → r.2.2.1 (1, 20) k = nI (d3 N k)) ∧ Frm (fun z => z = (1, 20)) M r.2.2) := by
    refine lp_for 9 (fun k s => s.1 = nI (N / 3 ^ k) ∧ s.2.1 = nI k ∧ (∀ i, i < k → s.2.2.1 (1, 20) i = nI (d3 N i)) ∧ Frm (fun z => z = (1, 20)) M s.2.2) _ (fun k s hk h => ?_) (fun s h => ?_) (k := 0) ⟨?_, rfl, fun i hi => by omega, Frm.rfl⟩ (by omega) (by omega)
    · obtain ⟨x, i0, A⟩ := s
      obtain ⟨h1, h2, h3, h4⟩ := h
      have h1 : x = nI (N / 3 ^ k) := h1
      have h2 : i0 = nI k := h2
      subst h1 h2
      have hle : N / 3 ^ k ≤ N := Nat.div_le_self _ _
      refine Or.inl ⟨(nI (N / 3 ^ (k + 1)), nI (k + 1), uI A (1, 20) k (nI (d3 N k))), ?_, rfl, rfl, fun i hi => ?_, h4.trans (Frm.uI A k _ rfl)⟩
      · unfold b_M_spread_4
        dsimp only
        rw [if_lt (x := 9) (B := 9) hk (by omega) rfl, ck_of (in20 hk), nI_clamp (by omega), bd_some, show (3 : Int32) = nI 3 from rfl, pk_rem (by omega) (by omega) (by omega), pk_div (by omega) (by omega) (by omega), nI_inc, Nat.div_div_eq_div_mul, ← Nat.pow_succ]
        rfl
      · by_cases e : i = k
        · subst e; exact uI_at A _ _ _
        · show (uI A (1, 20) k _).1 (1, 20) i = _
          rw [uI_off A _ _ e]
          exact h3 i (by omega)
    · obtain ⟨x, i0, A⟩ := s
      obtain ⟨h1, h2, h3, h4⟩ := h
      have h2 : i0 = nI 9 := h2
      subst h2
      refine ⟨(x, nI 9, A), ?_, h3, h4⟩
      unfold b_M_spread_4
      dsimp only
      rw [if_ge (x := 9) (B := 9) (Nat.le_refl _) (by omega) rfl]
    · rw [Nat.pow_zero, Nat.div_one]
  obtain ⟨r, h1, h2, h3⟩ := h
  refine ⟨r.2.2, ?_, h2, h3⟩
  unfold m_M_spread
  rw [h1, bd_some]
/-- a step's value; the best over the states up to k -/
def vv (g : Nat → Bool) (e : Ed) (l : Nat) (D : Nat → Nat) (s x t : Nat) : Nat := if 0 < D (3 * s + t) ∧ e l t x = true then (if D (3 * s + t) = 2 ∨ g x = true then 2 else 1) else 0
def Gv (g : Nat → Bool) (e : Ed) (l : Nat) (D : Nat → Nat) (s x : Nat) : Nat → Nat
  | 0 => 0
  | k + 1 => max (Gv g e l D s x k) (vv g e l D s x k)
theorem vv_le (g : Nat → Bool) (e : Ed) (l : Nat) (D : Nat → Nat) (s x t : Nat) : vv g e l D s x t ≤ 2 := by
  unfold vv
  split
  · split <;> omega
  · omega
theorem Gv_le (g : Nat → Bool) (e : Ed) (l : Nat) (D : Nat → Nat) (s x : Nat) : ∀ k, Gv g e l D s x k ≤ 2
  | 0 => Nat.zero_le _
  | k + 1 => Nat.max_le.mpr ⟨Gv_le g e l D s x k, vv_le g e l D s x k⟩
theorem vv_pos {g : Nat → Bool} {e : Ed} {l : Nat} {D : Nat → Nat} {s x t : Nat} : 0 < vv g e l D s x t ↔ 0 < D (3 * s + t) ∧ e l t x = true := by
  unfold vv
  split
  · split
    · simp [*]
    · simp [*]
  · simp [*]
theorem vv_two {g : Nat → Bool} {e : Ed} {l : Nat} {D : Nat → Nat} {s x t : Nat} : vv g e l D s x t = 2 ↔ 0 < D (3 * s + t) ∧ e l t x = true ∧ (D (3 * s + t) = 2 ∨ g x = true) := by
  unfold vv
  by_cases h1 : 0 < D (3 * s + t) ∧ e l t x = true
  · rw [if_pos h1]
    by_cases h2 : D (3 * s + t) = 2 ∨ g x = true
    · rw [if_pos h2]
      exact ⟨fun _ => ⟨h1.1, h1.2, h2⟩, fun _ => rfl⟩
    · rw [if_neg h2]
      exact ⟨fun h => by omega, fun h => absurd h.2.2 h2⟩
  · rw [if_neg h1]
    exact ⟨fun h => by omega, fun h => absurd ⟨h.1, h.2.1⟩ h1⟩
theorem Gv_pos {g : Nat → Bool} {e : Ed} {l : Nat} {D : Nat → Nat} {s x : Nat} : ∀ {k : Nat}, 0 < Gv g e l D s x k ↔ ∃ t, t < k ∧ 0 < D (3 * s + t) ∧ e l t x = true
  | 0 => ⟨fun h => absurd h (Nat.lt_irrefl 0), fun ⟨t, h, _⟩ => by omega⟩
  | k + 1 => by
    have ih := Gv_pos (g := g) (e := e) (l := l) (D := D) (s := s) (x := x) (k := k)
    have hv := vv_pos (g := g) (e := e) (l := l) (D := D) (s := s) (x := x) (t := k)
    have h : 0 < Gv g e l D s x (k + 1) ↔ 0 < Gv g e l D s x k ∨ 0 < vv g e l D s x k := by
      show 0 < max _ _ ↔ _
      omega
    rw [h, ih, hv]
    constructor
    · rintro (⟨t, a, b⟩ | b)
      · exact ⟨t, by omega, b⟩
      · exact ⟨k, by omega, b⟩
    · rintro ⟨t, a, b⟩
      by_cases e1 : t = k
      · subst e1; exact Or.inr b
      · exact Or.inl ⟨t, by omega, b⟩
theorem Gv_two {g : Nat → Bool} {e : Ed} {l : Nat} {D : Nat → Nat} {s x : Nat} : ∀ {k : Nat}, Gv g e l D s x k = 2 ↔ ∃ t, t < k ∧ 0 < D (3 * s + t) ∧ e l t x = true ∧ (D (3 * s + t) = 2 ∨ g x = true)
  | 0 => ⟨fun h => absurd (show (0 : Nat) = 2 from h) (by omega), fun ⟨t, h, _⟩ => absurd h (Nat.not_lt_zero t)⟩
  | k + 1 => by
    have ih := Gv_two (g := g) (e := e) (l := l) (D := D) (s := s) (x := x) (k := k)
    have hv := vv_two (g := g) (e := e) (l := l) (D := D) (s := s) (x := x) (t := k)
    have h1 := Gv_le g e l D s x k
    have h2 := vv_le g e l D s x k
    have h : Gv g e l D s x (k + 1) = 2 ↔ Gv g e l D s x k = 2 ∨ vv g e l D s x k = 2 := by
      show max _ _ = 2 ↔ _
      omega
    rw [h, ih, hv]
    constructor
    · rintro (⟨t, a, b⟩ | b)
      · exact ⟨t, by omega, b⟩
      · exact ⟨k, by omega, b⟩
    · rintro ⟨t, a, b⟩
      by_cases e1 : t = k
      · subst e1; exact Or.inr b
      · exact Or.inl ⟨t, by omega, b⟩
def CA (M : Mm) (f : Nat → Nat → Nat) : Prop := ∀ s x, s < 3 → x < 3 → M.1 (1, 21) (3 * s + x) = nI (f s x)
theorem CA_put {M : Mm} {f : Nat → Nat → Nat} (h : CA M f) {s x : Nat} (hx : x < 3) (v : Nat) : CA (uI M (1, 21) (3 * s + x) (nI v)) (fun s' x' => if s' = s ∧ x' = x then v else f s' x') := fun s' x' hs' hx' => by
  show _ = nI (if s' = s ∧ x' = x then v else f s' x')
  by_cases e : s' = s ∧ x' = x
  · rw [if_pos e, e.1, e.2]
    exact uI_at _ _ _ _
  · rw [if_neg e, uI_off _ _ _ (by omega)]
    exact h s' x' hs' hx'
theorem CA_ext {M : Mm} {f f' : Nat → Nat → Nat} (h : CA M f) (he : ∀ s x, s < 3 → x < 3 → f s x = f' s x) : CA M f' := fun s x hs hx => by rw [← he s x hs hx]; exact h s x hs hx
section LONG
variable {n : Nat} {g : Nat → Bool} {e : Ed} {b l : Nat} {D : Nat → Nat}
theorem longer_x {M0 M : Mm} {f : Nat → Nat → Nat} {s t : Nat} (hb : b < 6) (hl : l < 2) (hA : AOK n g e) (hn : n ≤ 3) (hR : RP M0 b n g e) (hF : Frm (fun z => z = (1, 21)) M0 M) (hs : s < 3) (ht : t < n) (hD : D (3 * s + t) ≤ 2) (hf : ∀ x, x < 3 → f s x = Gv g e l D s x t) (hC : CA M f) : ∃ r, lp (b_M_longer_63 (nI b) (nI l) (nI s) (nI t) (nI (D (3 * s + t)))) (0, M) = some r ∧ (CA r.2 (fun s' x' => if s' = s then Gv g e l D s x' (t + 1) else f s' x') ∧ Frm (fun z => z = (1, 21)) M0 r.2) := by
  have hno : ∀ x, ¬ x < n → Gv g e l D s x (t + 1) = Gv g e l D s x t := fun x hx => by
    have : ¬ 0 < vv g e l D s x t := fun h => hx (hA.2.2 _ _ _ (vv_pos.mp h).2).2.2
    show max _ _ = _
    omega
  refine lp_for n (fun k st => st.1 = nI k ∧ CA st.2 (fun s' x' => if s' = s ∧ x' < k then Gv g e l D s x' (t + 1) else f s' x') ∧ Frm (fun z => z = (1, 21)) M0 st.2) _ (fun k st hk h => ?_) (fun st h => ?_) (k := 0) ⟨rfl, CA_ext hC fun s' x' _ _ => by rw [if_neg (by omega)], hF⟩ (by omega) (by omega)
  · obtain ⟨i0, A⟩ := st
    obtain ⟨rfl, h2, h3⟩ := h
    have h2 : CA A (fun s' x' => if s' = s ∧ x' < k then Gv g e l D s x' (t + 1) else f s' x') := h2
    have h3 : Frm (fun z => z = (1, 21)) M0 A := h3
    have hRA : RP A b n g e := RP_frm hR h3 (cells_ne (by omega)) (cells_ne (by omega)) (cells_ne (by omega))
    have hcell : A.1 (1, 21) (3 * s + k) = nI (Gv g e l D s k t) := by
      rw [h2 s k hs (by omega)]
      dsimp only
      rw [if_neg (by omega), hf k (by omega)]
    have hGle := Gv_le g e l D s k t
    have i21 : inb (nI (3 * s + k)) (lenI 21) = true := in21 (by omega)
    unfold b_M_longer_63
    dsimp only
    rw [ck_of (sz_in hb), nI_clamp (show b < 2 ^ 31 by omega), if_lt hk (by omega) hRA.1]
    by_cases hd0 : D (3 * s + t) = 0
    · rw [if_pos (by rw [hd0]; exact Int32.le_refl _)]
      refine Or.inr ⟨_, rfl, CA_ext h2 fun s' x' _ hx' => ?_, h3⟩
      have hv : ∀ x, vv g e l D s x t = 0 := fun x => by
        apply Classical.byContradiction
        intro hne
        have := (vv_pos.mp (Nat.pos_of_ne_zero hne)).1
        omega
      have hG : ∀ x, Gv g e l D s x (t + 1) = Gv g e l D s x t := fun x => by
        show max _ _ = _
        rw [hv x]; omega
      by_cases e1 : s' = s
      · subst e1
        rw [if_pos rfl]
        split
        · rfl
        · rw [hf x' hx', hG]
      · rw [if_neg (by omega), if_neg e1]
    · rw [if_neg (nI_nle (by omega) (by omega)), to_ix, ck_of (to_in hb hl (show t < 4 by omega)), nI_clamp (show 8 * b + 4 * l + t < 2 ^ 31 by omega), i3s, nI_clamp (show 3 * s + k < 2 ^ 31 by omega), hcell]
      have hbe := hRA.2.2 l hl t ht k (by omega)
      have hbg := hRA.2.1 k hk
      -- what the step leaves: the cell holds the better of both
      have put : ∀ v, v = Gv g e l D s k (t + 1) → ∀ B, B = uI A (1, 21) (3 * s + k) (nI v) → (∃ s' : Int32 × Mm, some (Sum.inl (nI k + 1, B)) = (some (Sum.inl s') : Option ((Int32 × Mm) ⊕ (Int32 × Mm))) ∧ s'.1 = nI (k + 1) ∧ CA s'.2 (fun s' x' => if s' = s ∧ x' < k + 1 then Gv g e l D s x' (t + 1) else f s' x') ∧ Frm (fun z => z = (1, 21)) M0 s'.2) := fun v hv B hB => by
        refine ⟨(nI k + 1, B), rfl, nI_inc k, ?_, ?_⟩
        · rw [hB]
          refine CA_ext (CA_put h2 (show k < 3 by omega) v) fun s' x' _ _ => ?_
          by_cases e1 : s' = s
          · subst e1
            by_cases e2 : x' = k
            · subst e2; rw [if_pos ⟨rfl, rfl⟩, if_pos ⟨rfl, by omega⟩, hv]
            · rw [if_neg (by omega)]
              by_cases e3 : x' < k
              · rw [if_pos ⟨rfl, e3⟩, if_pos ⟨rfl, by omega⟩]
              · rw [if_neg (by omega), if_neg (by omega)]
          · rw [if_neg (by omega), if_neg (by omega), if_neg (by omega)]
        · rw [hB]; exact h3.trans (Frm.uI A _ _ rfl)
      have hmax : Gv g e l D s k (t + 1) = max (Gv g e l D s k t) (vv g e l D s k t) := rfl
      cases hE : e l t k
      · have hv0 : vv g e l D s k t = 0 := by
          unfold vv; rw [if_neg (by rw [hE]; simp)]
        have hv1 : Gv g e l D s k t = Gv g e l D s k (t + 1) := by rw [hmax, hv0]; omega
        rw [if_neg (by rw [b_tst1 _ (by omega), hbe, hE]; simp)]
        by_cases hd2 : nI (D (3 * s + t)) = 2
        · rw [if_pos hd2, ck_of i21, ck_of i21, bd_some]
          exact Or.inl (put _ hv1 _ rfl)
        · rw [if_neg hd2, ck_of (gd_in hb)]
          by_cases hgd : ((A.1 (1, 17) b >>> (nI k &&& 31)) &&& 1) = 1
          · rw [if_pos hgd, ck_of i21, ck_of i21, bd_some]
            exact Or.inl (put _ hv1 _ rfl)
          · rw [if_neg hgd, ck_of i21, ck_of i21, bd_some]
            exact Or.inl (put _ hv1 _ rfl)
      · have hpos : 0 < D (3 * s + t) ∧ e l t k = true := ⟨by omega, hE⟩
        rw [if_pos (by rw [b_tst1 _ (by omega), hbe, hE])]
        have two : vv g e l D s k t = 2 → (∃ s' : Int32 × Mm, (if (2 : Int32) ≤ nI (Gv g e l D s k t) then ck (inb (nI (3 * s + k)) (lenI 21)) (ck (inb (nI (3 * s + k)) (lenI 21)) (bd (some (uI A (1, 21) (3 * s + k) (nI (Gv g e l D s k t)))) fun M7 => some (Sum.inl (nI k + 1, M7)))) else ck (inb (nI (3 * s + k)) (lenI 21)) (bd (some (uI A (1, 21) (3 * s + k) (2 : Int32))) fun M8 => some (Sum.inl (nI k + 1, M8)))) = (some (Sum.inl s') : Option ((Int32 × Mm) ⊕ (Int32 × Mm))) ∧ s'.1 = nI (k + 1) ∧ CA s'.2 (fun s' x' => if s' = s ∧ x' < k + 1 then Gv g e l D s x' (t + 1) else f s' x') ∧ Frm (fun z => z = (1, 21)) M0 s'.2) := fun hv2 => by
          by_cases hc : Gv g e l D s k t = 2
          · rw [hc, if_pos (show (2 : Int32) ≤ nI 2 from Int32.le_refl _), ck_of i21, ck_of i21, bd_some]
            exact put 2 (by rw [hmax, hv2]; omega) _ rfl
          · rw [if_neg (show ¬ (2 : Int32) ≤ nI (Gv g e l D s k t) from nI_ge (b := 2) (show Gv g e l D s k t < 2 by omega) (by decide)), ck_of i21, bd_some]
            exact put 2 (by rw [hmax, hv2]; omega) _ rfl
        by_cases hd2 : D (3 * s + t) = 2
        · have hv2 : vv g e l D s k t = 2 := vv_two.mpr ⟨hpos.1, hE, Or.inl hd2⟩
          rw [if_pos (show nI (D (3 * s + t)) = (2 : Int32) by rw [hd2]; rfl), ck_of i21]
          exact Or.inl (two hv2)
        · rw [if_neg (show ¬ nI (D (3 * s + t)) = (2 : Int32) from fun h => hd2 ((nI_eq (by omega) (by omega)).mp (show nI (D (3 * s + t)) = nI 2 from h))), ck_of (gd_in hb)]
          cases hgk : g k
          · have hv1 : vv g e l D s k t = 1 := by
              unfold vv
              rw [if_pos hpos, if_neg (by rw [hgk]; simp [hd2])]
            rw [if_neg (by rw [b_tst1 _ (by omega), hbg, hgk]; simp), ck_of i21]
            by_cases hc : Gv g e l D s k t = 0
            · rw [hc, if_neg (show ¬ (1 : Int32) ≤ nI 0 from nI_ge (b := 1) (show 0 < 1 by omega) (by decide)), ck_of i21, bd_some]
              exact Or.inl (put 1 (by rw [hmax, hv1]; omega) _ rfl)
            · rw [if_pos (show (1 : Int32) ≤ nI (Gv g e l D s k t) from nI_le (show 1 ≤ Gv g e l D s k t by omega) (by omega)), ck_of i21, ck_of i21, bd_some]
              exact Or.inl (put _ (by rw [hmax, hv1]; omega) _ rfl)
          · have hv2 : vv g e l D s k t = 2 := vv_two.mpr ⟨hpos.1, hE, Or.inr hgk⟩
            rw [if_pos (by rw [b_tst1 _ (by omega), hbg, hgk]), ck_of i21]
            exact Or.inl (two hv2)
  · obtain ⟨i0, A⟩ := st
    obtain ⟨rfl, h2, h3⟩ := h
    have h3 : Frm (fun z => z = (1, 21)) M0 A := h3
    have hRA : RP A b n g e := RP_frm hR h3 (cells_ne (by omega)) (cells_ne (by omega)) (cells_ne (by omega))
    refine ⟨(nI n, A), ?_, CA_ext h2 fun s' x' _ hx' => ?_, h3⟩
    · unfold b_M_longer_63
      dsimp only
      rw [ck_of (sz_in hb), nI_clamp (show b < 2 ^ 31 by omega), if_ge (Nat.le_refl _) (by omega) hRA.1]
    · by_cases e1 : s' = s
      · subst e1
        rw [if_pos rfl]
        by_cases e2 : x' < n
        · rw [if_pos ⟨rfl, e2⟩]
        · rw [if_neg (by omega), hf x' hx', hno x' e2]
      · rw [if_neg (by omega), if_neg e1]
theorem longer_t {M0 M : Mm} {f : Nat → Nat → Nat} {s : Nat} (hb : b < 6) (hl : l < 2) (hA : AOK n g e) (hn : n ≤ 3) (hR : RP M0 b n g e) (hD : ∀ k, k < 9 → M0.1 (1, 20) k = nI (D k) ∧ D k ≤ 2) (hF : Frm (fun z => z = (1, 21)) M0 M) (hs : s < 3) (hf : ∀ x, x < 3 → f s x = 0) (hC : CA M f) : ∃ r, lp (b_M_longer_36 (nI b) (nI l) (nI s)) (0, M) = some r ∧ (CA r.2 (fun s' x' => if s' = s then Gv g e l D s x' n else f s' x') ∧ Frm (fun z => z = (1, 21)) M0 r.2) := by
  refine lp_for n (fun k st => st.1 = nI k ∧ CA st.2 (fun s' x' => if s' = s then Gv g e l D s x' k else f s' x') ∧ Frm (fun z => z = (1, 21)) M0 st.2) _ (fun k st hk h => ?_) (fun st h => ?_) (k := 0) ⟨rfl, CA_ext hC fun s' x' _ hx' => ?_, hF⟩ (by omega) (by omega)
  · obtain ⟨i0, A⟩ := st
    obtain ⟨rfl, h2, h3⟩ := h
    have h2 : CA A (fun s' x' => if s' = s then Gv g e l D s x' k else f s' x') := h2
    have h3 : Frm (fun z => z = (1, 21)) M0 A := h3
    have hRA : RP A b n g e := RP_frm hR h3 (cells_ne (by omega)) (cells_ne (by omega)) (cells_ne (by omega))
    have hdc : A.1 (1, 20) (3 * s + k) = nI (D (3 * s + k)) := by
      rw [h3.1 _ (cells_ne (by omega))]; exact (hD _ (by omega)).1
    obtain ⟨r, r1, r2, r3⟩ := longer_x (t := k) hb hl hA hn hR h3 hs hk (hD _ (by omega)).2 (fun x _ => by rw [if_pos rfl]) h2
    refine Or.inl ⟨(nI (k + 1), r.2), ?_, rfl, CA_ext r2 fun s' x' _ _ => ?_, r3⟩
    · unfold b_M_longer_36
      dsimp only
      rw [ck_of (sz_in hb), nI_clamp (show b < 2 ^ 31 by omega), if_lt hk (by omega) hRA.1, i3s, ck_of (in20 (by omega)), nI_clamp (show 3 * s + k < 2 ^ 31 by omega), bd_some, hdc, r1, bd_some, nI_inc]
    · by_cases e1 : s' = s
      · subst e1; rw [if_pos rfl, if_pos rfl]
      · rw [if_neg e1, if_neg e1, if_neg e1]
  · obtain ⟨i0, A⟩ := st
    obtain ⟨rfl, h2, h3⟩ := h
    have h3 : Frm (fun z => z = (1, 21)) M0 A := h3
    have hRA : RP A b n g e := RP_frm hR h3 (cells_ne (by omega)) (cells_ne (by omega)) (cells_ne (by omega))
    refine ⟨(nI n, A), ?_, h2, h3⟩
    unfold b_M_longer_36
    dsimp only
    rw [ck_of (sz_in hb), nI_clamp (show b < 2 ^ 31 by omega), if_ge (Nat.le_refl _) (by omega) hRA.1]
  · by_cases e1 : s' = s
    · subst e1; rw [if_pos rfl, hf x' hx']; rfl
    · rw [if_neg e1]
/-- the digits behind one more letter -/
def Dl (n : Nat) (g : Nat → Bool) (e : Ed) (l : Nat) (D : Nat → Nat) (k : Nat) : Nat := if k / 3 < n then Gv g e l D (k / 3) (k % 3) n else 0
theorem Dl_le (n : Nat) (g : Nat → Bool) (e : Ed) (l : Nat) (D : Nat → Nat) (k : Nat) : Dl n g e l D k ≤ 2 := by
  unfold Dl
  split
  · exact Gv_le _ _ _ _ _ _ _
  · omega
def hn (D : Nat → Nat) : Nat → Nat
  | 0 => 0
  | m + 1 => 3 * hn D m + D (8 - m)
def nm (D : Nat → Nat) : Nat := D 0 + 3 * D 1 + 9 * D 2 + 27 * D 3 + 81 * D 4 + 243 * D 5 + 729 * D 6 + 2187 * D 7 + 6561 * D 8
theorem hn_9 (D : Nat → Nat) : hn D 9 = nm D := by
  show 3 * (3 * (3 * (3 * (3 * (3 * (3 * (3 * (3 * 0 + D 8) + D 7) + D 6) + D 5) + D 4) + D 3) + D 2) + D 1) + D 0 = _
  unfold nm
  omega
theorem nm_lt {D : Nat → Nat} (h : ∀ k, k < 9 → D k ≤ 2) : nm D < 19683 := by
  unfold nm
  have := h 0 (by omega); have := h 1 (by omega); have := h 2 (by omega); have := h 3 (by omega); have := h 4 (by omega); have := h 5 (by omega); have := h 6 (by omega); have := h 7 (by omega); have := h 8 (by omega)
  omega
theorem lt9 {k : Nat} (h : k < 9) : k = 0 ∨ k = 1 ∨ k = 2 ∨ k = 3 ∨ k = 4 ∨ k = 5 ∨ k = 6 ∨ k = 7 ∨ k = 8 := by omega
theorem d3_nm {D : Nat → Nat} (h : ∀ k, k < 9 → D k ≤ 2) {k : Nat} (hk : k < 9) : d3 (nm D) k = D k := by
  unfold nm d3
  have := h 0 (by omega); have := h 1 (by omega); have := h 2 (by omega); have := h 3 (by omega); have := h 4 (by omega); have := h 5 (by omega); have := h 6 (by omega); have := h 7 (by omega); have := h 8 (by omega)
  rcases lt9 hk with rfl | rfl | rfl | rfl | rfl | rfl | rfl | rfl | rfl <;> omega
theorem nm_ext {D D' : Nat → Nat} (h : ∀ k, k < 9 → D k = D' k) : nm D = nm D' := by
  unfold nm
  rw [h 0 (by omega), h 1 (by omega), h 2 (by omega), h 3 (by omega), h 4 (by omega), h 5 (by omega), h 6 (by omega), h 7 (by omega), h 8 (by omega)]
theorem hn_lt {D : Nat → Nat} (h : ∀ k, k < 9 → D k ≤ 2) : ∀ m, m ≤ 9 → hn D m < 3 ^ m
  | 0, _ => Nat.one_pos
  | m + 1, hm => by
    have h1 := hn_lt h m (by omega)
    have h2 := h (8 - m) (by omega)
    rw [Nat.pow_succ]
    show 3 * hn D m + D (8 - m) < _
    omega
theorem longer_num {M : Mm} (hb : b < 6) (hl : l < 2) (hA : AOK n g e) (hn3 : n ≤ 3) (hR : RP M b n g e) (hD : ∀ k, k < 9 → M.1 (1, 20) k = nI (D k) ∧ D k ≤ 2) : ∃ M', m_M_longer (nI b) (nI l) M = some (nI (nm (Dl n g e l D)), M') ∧ Frm (fun z => z = (1, 21)) M M' := by
  have hz : ∃ r, lp b_M_longer_2 (0, M) = some r ∧ ((∀ k, k < 9 → r.2.1 (1, 21) k = 0) ∧ Frm (fun z => z = (1, 21)) M r.2) := by
    refine lp_for 9 (fun k s => s.1 = nI k ∧ (∀ i, i < k → s.2.1 (1, 21) i = 0) ∧ Frm (fun z => z = (1, 21)) M s.2) _ (fun k s hk h => ?_) (fun s h => ?_) (k := 0) ⟨rfl, fun i hi => by omega, Frm.rfl⟩ (by omega) (by omega)
    · obtain ⟨i0, A⟩ := s
      obtain ⟨rfl, h2, h3⟩ := h
      refine Or.inl ⟨(nI (k + 1), uI A (1, 21) k 0), ?_, rfl, fun i hi => ?_, h3.trans (Frm.uI A k 0 rfl)⟩
      · unfold b_M_longer_2
        dsimp only
        rw [if_lt (x := 9) (B := 9) hk (by omega) rfl, ck_of (in21 hk), nI_clamp (by omega), bd_some, nI_inc]
      · by_cases e : i = k
        · subst e; exact uI_at A _ _ _
        · show (uI A (1, 21) k 0).1 (1, 21) i = 0
          rw [uI_off A _ _ e]
          exact h2 i (by omega)
    · obtain ⟨i0, A⟩ := s
      obtain ⟨rfl, h2, h3⟩ := h
      refine ⟨(nI 9, A), ?_, h2, h3⟩
      unfold b_M_longer_2
      dsimp only
      rw [if_ge (x := 9) (B := 9) (Nat.le_refl _) (by omega) rfl]
  obtain ⟨r0, z1, z2, z3⟩ := hz
  have h1 : ∃ r, lp (b_M_longer_23 (nI b) (nI l)) (0, r0.2) = some r ∧ (CA r.2 (fun s x => if s < n then Gv g e l D s x n else 0) ∧ Frm (fun z => z = (1, 21)) M r.2) := by
    refine lp_for n (fun k st => st.1 = nI k ∧ CA st.2 (fun s x => if s < k then Gv g e l D s x n else 0) ∧ Frm (fun z => z = (1, 21)) M st.2) _ (fun k st hk h => ?_) (fun st h => ?_) (k := 0) ⟨rfl, fun s x hs hx => ?_, z3⟩ (by omega) (by omega)
    · obtain ⟨i0, A⟩ := st
      obtain ⟨rfl, h2, h3⟩ := h
      have h2 : CA A (fun s x => if s < k then Gv g e l D s x n else 0) := h2
      have h3 : Frm (fun z => z = (1, 21)) M A := h3
      have hRA : RP A b n g e := RP_frm hR h3 (cells_ne (by omega)) (cells_ne (by omega)) (cells_ne (by omega))
      obtain ⟨r, r1, r2, r3⟩ := longer_t (s := k) hb hl hA hn3 hR hD h3 (by omega) (fun x _ => by rw [if_neg (by omega)]) h2
      refine Or.inl ⟨(nI (k + 1), r.2), ?_, rfl, CA_ext r2 fun s' x' _ _ => ?_, r3⟩
      · unfold b_M_longer_23
        dsimp only
        rw [ck_of (sz_in hb), nI_clamp (show b < 2 ^ 31 by omega), if_lt hk (by omega) hRA.1, r1, bd_some, nI_inc]
      · by_cases e1 : s' = k
        · subst e1; rw [if_pos rfl, if_pos (by omega)]
        · rw [if_neg e1]
          by_cases e2 : s' < k
          · rw [if_pos e2, if_pos (by omega)]
          · rw [if_neg e2, if_neg (by omega)]
    · obtain ⟨i0, A⟩ := st
      obtain ⟨rfl, h2, h3⟩ := h
      have h3 : Frm (fun z => z = (1, 21)) M A := h3
      have hRA : RP A b n g e := RP_frm hR h3 (cells_ne (by omega)) (cells_ne (by omega)) (cells_ne (by omega))
      refine ⟨(nI n, A), ?_, h2, h3⟩
      unfold b_M_longer_23
      dsimp only
      rw [ck_of (sz_in hb), nI_clamp (show b < 2 ^ 31 by omega), if_ge (Nat.le_refl _) (by omega) hRA.1]
    · exact z2 _ (by omega)
  obtain ⟨r1, a1, a2, a3⟩ := h1
  have hc : ∀ k, k < 9 → r1.2.1 (1, 21) k = nI (Dl n g e l D k) := fun k hk => by
    have := a2 (k / 3) (k % 3) (by omega) (by omega)
    rw [show 3 * (k / 3) + k % 3 = k by omega] at this
    exact this
  have h2 : ∃ r, lp (b_M_longer_211 r1.2) (0, 8) = some r ∧ r.1 = nI (nm (Dl n g e l D)) := by
    refine lp_for 9 (fun m s => s.2 = nI (9 - m) - 1 ∧ s.1 = nI (hn (Dl n g e l D) m)) _ (fun m s hm h => ?_) (fun s h => ?_) (k := 0) ⟨by decide, rfl⟩ (by omega) (by omega)
    · obtain ⟨x, i0⟩ := s
      obtain ⟨h3, h4⟩ := h
      have h3 : i0 = nI (9 - m) - 1 := h3
      have h4 : x = nI (hn (Dl n g e l D) m) := h4
      obtain ⟨k, hk⟩ : ∃ k, 9 - m = k + 1 := ⟨8 - m, by omega⟩
      rw [hk, nI_pred] at h3
      subst h3 h4
      have hk2 : 9 - (m + 1) = k := by omega
      refine Or.inl ⟨(nI (hn (Dl n g e l D) (m + 1)), nI k - 1), ?_, by rw [hk2], rfl⟩
      unfold b_M_longer_211
      dsimp only
      rw [if_neg (nI_pos (by omega)), ck_of (in21 (by omega)), nI_clamp (by omega), hc k (by omega), bd_some, i3s, m1_eq]
      show some (Sum.inl (nI (3 * hn (Dl n g e l D) m + Dl n g e l D k), _)) = some (Sum.inl (nI (3 * hn (Dl n g e l D) m + Dl n g e l D (8 - m)), _))
      rw [show 8 - m = k by omega]
    · obtain ⟨x, i0⟩ := s
      obtain ⟨h3, h4⟩ := h
      have h3 : i0 = nI (9 - 9) - 1 := h3
      have h4 : x = nI (hn (Dl n g e l D) 9) := h4
      subst h3 h4
      refine ⟨(nI (hn (Dl n g e l D) 9), nI 0 - 1), ?_, by rw [hn_9]⟩
      unfold b_M_longer_211
      dsimp only
      rw [if_pos m1_neg]
  obtain ⟨r2, b1, b2⟩ := h2
  refine ⟨r1.2, ?_, a3⟩
  unfold m_M_longer
  rw [z1, bd_some, a1, bd_some, b1, bd_some, b2]
end LONG
