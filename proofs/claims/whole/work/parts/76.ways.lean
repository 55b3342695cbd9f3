/-! words' passages, one letter more; ways by their bits -/
def lets (v : List Nat) : Prop := ∀ l, l ∈ v → l < 2
def Lg (n : Nat) (g : Nat → Bool) (e : Ed) (l : Nat) (p r : Int32) : Prop := (∀ x y, rE r x y = true ↔ x < n ∧ ∃ m, rE p x m = true ∧ e l m y = true) ∧ ∀ x y, rG r x y = true ↔ x < n ∧ ((∃ m, rG p x m = true ∧ e l m y = true) ∨ ((∃ m, rE p x m = true ∧ e l m y = true) ∧ g y = true))
section LGW
variable {n : Nat} {g : Nat → Bool} {e : Ed} {o : Nat → Prop}
theorem Lg_uniq {l : Nat} {p r r' : Int32} (h : Lg n g e l p r) (h' : Lg n g e l p r') : r = r' := pass_ext (fun x y => by rw [Bool.eq_iff_iff, h.1, h'.1]) (fun x y => by rw [Bool.eq_iff_iff, h.2, h'.2])
theorem Pw_uniq {w : List Nat} {p r : Int32} (h : Pw n g e o w p) (h' : Pw n g e o w r) : p = r := pass_ext (fun x y => by rw [Bool.eq_iff_iff, h.1, h'.1]) (fun x y => by rw [Bool.eq_iff_iff, h.2, h'.2])
theorem Lg_word {w : List Nat} {l : Nat} {p r : Int32} (hp : Pw n g e o w p) (h : Lg n g e l p r) : Pw n g e o (w ++ [l]) r := by
  have hE : ∀ x y, x < n → ((∃ m, rE p x m = true ∧ e l m y = true) ↔ o x ∧ pth e (w ++ [l]) x y) := fun x y hx => by
    constructor
    · rintro ⟨m, a, b⟩
      obtain ⟨-, ho, a⟩ := (hp.1 x m).mp a
      exact ⟨ho, pth_j a ⟨y, b, rfl⟩⟩
    · rintro ⟨ho, h⟩
      obtain ⟨m, a, y', b, rfl⟩ := (pth_app w [l] x y).mp h
      exact ⟨m, (hp.1 x m).mpr ⟨hx, ho, a⟩, b⟩
  refine ⟨fun x y => ?_, fun x y => ?_⟩
  · rw [h.1 x y]
    constructor
    · rintro ⟨hx, h⟩
      exact ⟨hx, (hE x y hx).mp h⟩
    · rintro ⟨hx, h⟩
      exact ⟨hx, (hE x y hx).mpr h⟩
  · rw [h.2 x y]
    constructor
    · rintro ⟨hx, ⟨m, a, b⟩ | ⟨h, hg⟩⟩
      · obtain ⟨-, ho, a⟩ := (hp.2 x m).mp a
        exact ⟨hx, ho, gth_l a ⟨y, b, rfl⟩⟩
      · obtain ⟨m, a, b⟩ := h
        obtain ⟨-, ho, a⟩ := (hp.1 x m).mp a
        exact ⟨hx, ho, gth_r a ⟨y, b, Or.inl ⟨hg, rfl⟩⟩⟩
    · rintro ⟨hx, ho, h⟩
      obtain ⟨m, ⟨a, y', b, rfl⟩ | ⟨a, y', b, ⟨c, rfl⟩ | c⟩⟩ := (gth_app w [l] x y).mp h
      · exact ⟨hx, Or.inl ⟨m, (hp.2 x m).mpr ⟨hx, ho, a⟩, b⟩⟩
      · exact ⟨hx, Or.inr ⟨⟨m, (hp.1 x m).mpr ⟨hx, ho, a⟩, b⟩, c⟩⟩
      · exact c.elim
theorem Pw_p1 {w : List Nat} {P : Int32} (hn : n ≤ 3) (h : Pw n g e o w P) : P + 1 ≠ 0 := fun h0 => by
  have e : P = -1 := by rw [← add1_sub P, h0]; decide
  have h1 : rG P 3 3 = true := by rw [rG_bt (by omega) (by omega), e, b_m1 _ (by omega)]
  have := ((h.2 3 3).mp h1).1
  omega
theorem pth_lets (hA : AOK n g e) : ∀ (w : List Nat) {x y : Nat}, pth e w x y → lets w
  | [], _, _, _ => fun l h => by cases h
  | k :: w, x, y, ⟨m, h1, h2⟩ => fun l h => by
    rcases List.mem_cons.mp h with e | e
    · rw [e]; exact (hA.2.2 _ _ _ h1).1
    · exact pth_lets hA w h2 l e
theorem ex_Pw {M : Mm} {j : Nat} (hj : j < 7) (hA : AOK n g e) (hC : CP M j n g e) : ∀ (w u : List Nat), lets w → (∃ P, Pw n g e o u P) → ∃ P, Pw n g e o (u ++ w) P
  | [], u, _, h => by rw [List.append_nil]; exact h
  | l :: w, u, hw, ⟨P, h⟩ => by
    obtain ⟨r, -, h2⟩ := longer_word hj hA hC h (hw l (List.mem_cons_self ..))
    have := ex_Pw hj hA hC w (u ++ [l]) (fun k hk => hw k (List.mem_cons_of_mem _ hk)) ⟨r, h2⟩
    rwa [List.append_assoc] at this
def ls (n : Nat) (g : Nat → Bool) (e : Ed) (l j j' : Nat) : Prop := j' / 8 < n ∧ j / 8 = j' / 8 ∧ e l (j % 4) (j' % 4) = true ∧ ((j % 8 < 4 ∧ (j' % 8 < 4 ∨ g (j' % 4) = true)) ∨ (4 ≤ j % 8 ∧ 4 ≤ j' % 8))
theorem rE_j {W : Int32} {j : Nat} (hj : j < 32) (hm : j % 8 < 4) : rE W (j / 8) (j % 4) = bt W j := by
  rw [rE_bt (by omega) (by omega)]
  congr 1
  omega
theorem rG_j {W : Int32} {j : Nat} (hj : j < 32) (hm : 4 ≤ j % 8) : rG W (j / 8) (j % 4) = bt W j := by
  rw [rG_bt (by omega) (by omega)]
  congr 1
  omega
theorem Lg_bits {l : Nat} {W W' : Int32} (h : Lg n g e l W W') {j' : Nat} (hj' : j' < 32) : bt W' j' = true ↔ ∃ j, j < 32 ∧ bt W j = true ∧ ls n g e l j j' := by
  have eE : ∀ x m, rE W x m = true → bt W (8 * x + m) = true ∧ x < 4 ∧ m < 4 := fun x m h => by
    have := rE_lt h
    rw [rE_bt this.1 this.2] at h
    exact ⟨h, this⟩
  have eG : ∀ x m, rG W x m = true → bt W (8 * x + 4 + m) = true ∧ x < 4 ∧ m < 4 := fun x m h => by
    have := rG_lt h
    rw [rG_bt this.1 this.2] at h
    exact ⟨h, this⟩
  by_cases hm : j' % 8 < 4
  · rw [← rE_j hj' hm, h.1]
    constructor
    · rintro ⟨hx, m, a, b⟩
      obtain ⟨a1, a2, a3⟩ := eE _ _ a
      refine ⟨8 * (j' / 8) + m, by omega, a1, hx, by omega, ?_, Or.inl ⟨by omega, Or.inl hm⟩⟩
      rw [show (8 * (j' / 8) + m) % 4 = m by omega]; exact b
    · rintro ⟨j, hj, a, c1, c2, c3, ⟨c4, -⟩ | ⟨-, c4⟩⟩
      · exact ⟨c1, j % 4, by rw [← c2, rE_j hj c4]; exact a, c3⟩
      · omega
  · rw [← rG_j hj' (by omega), h.2]
    constructor
    · rintro ⟨hx, ⟨m, a, b⟩ | ⟨⟨m, a, b⟩, c⟩⟩
      · obtain ⟨a1, a2, a3⟩ := eG _ _ a
        refine ⟨8 * (j' / 8) + 4 + m, by omega, a1, hx, by omega, ?_, Or.inr ⟨by omega, by omega⟩⟩
        rw [show (8 * (j' / 8) + 4 + m) % 4 = m by omega]; exact b
      · obtain ⟨a1, a2, a3⟩ := eE _ _ a
        refine ⟨8 * (j' / 8) + m, by omega, a1, hx, by omega, ?_, Or.inl ⟨by omega, Or.inr c⟩⟩
        rw [show (8 * (j' / 8) + m) % 4 = m by omega]; exact b
    · rintro ⟨j, hj, a, c1, c2, c3, ⟨c4, c5 | c5⟩ | ⟨c4, -⟩⟩
      · omega
      · exact ⟨c1, Or.inr ⟨⟨j % 4, by rw [← c2, rE_j hj c4]; exact a, c3⟩, c5⟩⟩
      · exact ⟨c1, Or.inl ⟨j % 4, by rw [← c2, rG_j hj c4]; exact a, c3⟩⟩
theorem pth_pl (hA : AOK n g e) : ∀ (w : List Nat) {x y : Nat}, w ≠ [] → pth e w x y → pl (ae n e) x y
  | [], _, _, h, _ => (h rfl).elim
  | l :: w, x, y, _, ⟨m, h1, h2⟩ => by
    obtain ⟨hl, hx, hm⟩ := hA.2.2 l x m h1
    have h3 : ae n e x m = true := by
      simp only [ae, Bool.and_eq_true, Bool.or_eq_true, decide_eq_true_eq]
      refine ⟨hx, ?_⟩
      rcases (show l = 0 ∨ l = 1 by omega) with rfl | rfl
      · exact Or.inl h1
      · exact Or.inr h1
    cases w with
    | nil => cases h2; exact pl_1 h3
    | cons k w => exact pl_t (pl_1 h3) (pth_pl hA (k :: w) (by simp) h2)
end LGW
/-- there is a word that the one takes and the other does not -/
def Df (ea : Ed) (ga : Nat → Bool) (eb : Ed) (gb : Nat → Bool) : Prop := ∃ s u v, pth ea u 0 s ∧ gth ea ga v s s ∧ ¬ Tk eb gb u v
/-- the turning state may be a good one -/
theorem Df_good {na : Nat} {ga gb : Nat → Bool} {ea eb : Ed} (hA : AOK na ga ea) (h : Df ea ga eb gb) : ∃ s u v, (Lv na ga ea s ∧ ga s = true) ∧ pth ea u 0 s ∧ gth ea ga v s s ∧ ¬ Tk eb gb u v := by
  obtain ⟨s, u, v, h1, h2, h3⟩ := h
  obtain ⟨w1, w2, g1, rfl, hw, hg, a, b⟩ := gth_cut v s s h2
  have hne : w2 ++ w1 ≠ [] := fun e => hw (List.append_eq_nil_iff.mp e).2
  have hp : pth ea (w2 ++ w1) g1 g1 := pth_j b a
  have hu : pth ea (u ++ w1) 0 g1 := pth_j h1 a
  refine ⟨g1, u ++ w1, w2 ++ w1, ⟨⟨hA.2.1 g1 hg, Or.inr (pth_pl hA _ (fun e => hw (List.append_eq_nil_iff.mp e).2) hu), g1, hg, pth_pl hA _ hne hp, Or.inl rfl⟩, hg⟩, hu, pth_good _ _ _ hne hg hp, fun ht => h3 (Tk_rot1 ht)⟩
