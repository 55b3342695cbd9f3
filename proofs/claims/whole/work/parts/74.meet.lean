/-! sets of outer states that words lead to, as numbers below 8; which of them a word leads to that leads to an inner state -/
noncomputable def fl (e : Ed) (l x : Nat) : Nat := Classical.choose (num_of 3 (fun q => dB (∃ s, x.testBit s = true ∧ e l s q = true)))
theorem fl_lt (e : Ed) (l x : Nat) : fl e l x < 8 := (Classical.choose_spec (num_of 3 (fun q => dB (∃ s, x.testBit s = true ∧ e l s q = true)))).1
theorem fl_bit {e : Ed} (hs : ∀ l p q, e l p q = true → p < 3 ∧ q < 3) (l x q : Nat) : (fl e l x).testBit q = true ↔ ∃ s, x.testBit s = true ∧ e l s q = true := by
  by_cases hq : q < 3
  · rw [show (fl e l x).testBit q = _ from (Classical.choose_spec (num_of 3 (fun q => dB (∃ s, x.testBit s = true ∧ e l s q = true)))).2 q hq, dB_iff]
  · constructor
    · intro h
      have h8 : fl e l x < 2 ^ q := Nat.lt_of_lt_of_le (fl_lt e l x) (Nat.pow_le_pow_right (n := 2) (by omega) (show 3 ≤ q by omega))
      rw [Nat.testBit_lt_two_pow h8] at h
      cases h
    · rintro ⟨s, -, h⟩
      exact absurd (hs _ _ _ h).2 hq
noncomputable def fw (e : Ed) : List Nat → Nat → Nat
  | [], x => x
  | l :: u, x => fw e u (fl e l x)
theorem fw_app (e : Ed) : ∀ (u v : List Nat) (x : Nat), fw e (u ++ v) x = fw e v (fw e u x)
  | [], _, _ => rfl
  | l :: u, v, x => fw_app e u v (fl e l x)
theorem fw_bit {e : Ed} (hs : ∀ l p q, e l p q = true → p < 3 ∧ q < 3) : ∀ (u : List Nat) (x q : Nat), (fw e u x).testBit q = true ↔ ∃ s, x.testBit s = true ∧ pth e u s q
  | [], x, q => by
    constructor
    · intro h; exact ⟨q, h, rfl⟩
    · rintro ⟨s, h, h2⟩
      have h2 : s = q := h2
      rw [← h2]; exact h
  | l :: u, x, q => by
    show (fw e u (fl e l x)).testBit q = true ↔ _
    rw [fw_bit hs u]
    constructor
    · rintro ⟨m, h1, h2⟩
      obtain ⟨s, h3, h4⟩ := (fl_bit hs l x m).mp h1
      exact ⟨s, h3, m, h4, h2⟩
    · rintro ⟨s, h3, m, h4, h2⟩
      exact ⟨m, (fl_bit hs l x m).mpr ⟨s, h3, h4⟩, h2⟩
def x0 (n : Nat) : Nat := if 0 < n then 1 else 0
theorem x0_bit (n s : Nat) : (x0 n).testBit s = true ↔ 0 < n ∧ s = 0 := by
  unfold x0
  split
  · rw [show (1 : Nat) = 2 ^ 0 from rfl, Nat.testBit_two_pow, decide_eq_true_eq]
    constructor
    · intro h; exact ⟨by assumption, h.symm⟩
    · intro h; exact h.2.symm
  · rw [Nat.zero_testBit]
    constructor
    · intro h; cases h
    · rintro ⟨h, -⟩; contradiction
theorem x0_lt (n : Nat) : x0 n < 8 := by unfold x0; split <;> omega
theorem ok3 {n : Nat} {g : Nat → Bool} {e : Ed} (hA : AOK n g e) (hn : n ≤ 3) : ∀ l p q, e l p q = true → p < 3 ∧ q < 3 := fun l p q h => by
  have := hA.2.2 l p q h
  omega
/-- the lasso by the head's set and the tail's passage -/
theorem Tk_set {n : Nat} {g : Nat → Bool} {e : Ed} {u v : List Nat} {P : Int32} (hA : AOK n g e) (hn : n ≤ 3) (hP : Pw n g e (fun _ => True) v P) : Tk e g u v ↔ ∃ q, (fw e u (x0 n)).testBit q = true ∧ Rp P q := by
  constructor
  · intro hT
    have h0 := pth_start hA hT
    obtain ⟨q, c, k, j, h1, h2, h3⟩ := hT
    exact ⟨q, (fw_bit (ok3 hA hn) u _ q).mpr ⟨0, (x0_bit n 0).mpr ⟨h0, rfl⟩, h1⟩, (Rp_iff hA hP q).mpr ⟨pth_lt hA u h0 h1, c, k, j, h2, h3⟩⟩
  · rintro ⟨q, h1, h2⟩
    obtain ⟨s, h3, h4⟩ := (fw_bit (ok3 hA hn) u _ q).mp h1
    obtain ⟨-, rfl⟩ := (x0_bit n s).mp h3
    obtain ⟨-, c, k, j, h5, h6⟩ := (Rp_iff hA hP q).mp h2
    exact ⟨q, c, k, j, h4, h5, h6⟩
def Mt (ea eb : Ed) (nb s x : Nat) : Prop := ∃ u, pth ea u 0 s ∧ fw eb u (x0 nb) = x
theorem Mt_0 (ea eb : Ed) (nb : Nat) : Mt ea eb nb 0 (x0 nb) := ⟨[], rfl, rfl⟩
theorem Mt_s {ea eb : Ed} {nb s x l t : Nat} (h : Mt ea eb nb s x) (he : ea l s t = true) : Mt ea eb nb t (fl eb l x) := by
  obtain ⟨u, h1, h2⟩ := h
  refine ⟨u ++ [l], pth_j h1 ⟨t, he, rfl⟩, ?_⟩
  rw [fw_app, h2]
  rfl
theorem Mt_min {ea eb : Ed} {nb : Nat} (S : Nat → Nat → Prop) (h0 : S 0 (x0 nb)) (hc : ∀ s x, S s x → ∀ l t, ea l s t = true → S t (fl eb l x)) {s x : Nat} (h : Mt ea eb nb s x) : S s x := by
  obtain ⟨u, h1, h2⟩ := h
  have key : ∀ (u : List Nat) (p y : Nat), S p y → pth ea u p s → S s (fw eb u y) := by
    intro u
    induction u with
    | nil => intro p y h h1; cases h1; exact h
    | cons l u ih =>
      rintro p y h ⟨m, h3, h4⟩
      exact ih m _ (hc p y h l m h3) h4
  rw [← h2]
  exact key u 0 _ h0 h1
theorem fol_num {M : Mm} {j n : Nat} {g : Nat → Bool} {e : Ed} (hj : j < 7) (hA : AOK n g e) (hn : n ≤ 3) (hC : CP M j n g e) {x : Nat} (hx : x < 8) {l : Nat} (hl : l < 2) : m_A_followersOf j (nI x) (nI l) M = some (nI (fl e l x)) := by
  obtain ⟨v, h1, h2⟩ := followersOf_eq hj hC (nI x) hl
  rw [h1]
  congr 1
  refine b_ext fun q hq => ?_
  have h8 := fl_lt e l x
  rw [Bool.eq_iff_iff, h2 q hq, bt_nI (by omega), fl_bit (ok3 hA hn)]
  constructor
  · rintro ⟨s, -, h3, h4⟩
    rw [bt_nI (by omega)] at h3
    exact ⟨s, h3, h4⟩
  · rintro ⟨s, h3, h4⟩
    exact ⟨s, by have := (ok3 hA hn _ _ _ h4).1; omega, by rw [bt_nI (by omega)]; exact h3, h4⟩
/-! the search for meetings, in a row of cells c -/
def bM (M : Mm) (c s x : Nat) : Prop := bt (M.1 (1, c) s) x = true
def MS (ea eb : Ed) (nb : Nat) (M : Mm) (c : Nat) : Prop := ∀ s, s < 4 → ∀ x, x < 32 → bM M c s x → x < 8 ∧ Mt ea eb nb s x
def Gr (c : Nat) (M : Mm) (f : Int32) (M' : Mm) (C : Prop) : Prop := Frm (fun z => z = (1, c)) M M' ∧ (∀ s x, bM M c s x → bM M' c s x) ∧ ((f = 0 ∧ M' = M ∧ C) ∨ (f = 1 ∧ ∃ s x, s < 4 ∧ x < 8 ∧ bM M' c s x ∧ ¬ bM M c s x))
theorem Gr.rfl {c : Nat} {M : Mm} {C : Prop} (h : C) : Gr c M 0 M C := ⟨Frm.rfl, fun _ _ h => h, Or.inl ⟨Eq.refl _, Eq.refl _, h⟩⟩
theorem Gr.trans {c : Nat} {M M1 M2 : Mm} {f f1 f' : Int32} {C C1 C' : Prop} (h1 : Gr c M f M1 C) (h2 : Gr c M1 f1 M2 C1) (hf : f' = if f1 = 0 then f else 1) (hC : M1 = M → C → C1 → C') : Gr c M f' M2 C' := by
  refine ⟨h1.1.trans h2.1, fun s x h => h2.2.1 s x (h1.2.1 s x h), ?_⟩
  rcases h2.2.2 with ⟨a1, a2, a3⟩ | ⟨a1, s, x, a2, a3, a4, a5⟩
  · rcases h1.2.2 with ⟨b1, b2, b3⟩ | ⟨b1, s, x, b2, b3, b4, b5⟩
    · exact Or.inl ⟨by rw [hf, if_pos a1, b1], a2.trans b2, hC b2 b3 a3⟩
    · exact Or.inr ⟨by rw [hf, if_pos a1, b1], s, x, b2, b3, h2.2.1 s x b4, b5⟩
  · exact Or.inr ⟨by rw [hf, if_neg (by rw [a1]; decide)], s, x, a2, a3, a4, fun h => a5 (h1.2.1 s x h)⟩
theorem Gr.imp {c : Nat} {M M1 : Mm} {f : Int32} {C C' : Prop} (h1 : Gr c M f M1 C) (hC : M1 = M → C → C') : Gr c M f M1 C' := by
  refine ⟨h1.1, h1.2.1, ?_⟩
  rcases h1.2.2 with ⟨b1, b2, b3⟩ | h
  · exact Or.inl ⟨b1, b2, hC b2 b3⟩
  · exact Or.inr h
theorem Gr.bit {c : Nat} {M M1 : Mm} {f : Int32} {C : Prop} (h1 : Gr c M f M1 C) : f = 0 ∨ f = 1 := by
  rcases h1.2.2 with ⟨b1, -⟩ | ⟨b1, -⟩
  · exact Or.inl b1
  · exact Or.inr b1
theorem b_and_bit (x : Int32) {y : Nat} (hy : y < 32) : (x &&& ((1 : Int32) <<< (nI y &&& 31))) = 0 ↔ bt x y = false := by
  rw [b_eq0]
  constructor
  · intro h
    have := h y hy
    rw [b_and, b_bit hy] at this
    simpa using this
  · intro h i hi
    rw [b_and, b_bit hy]
    by_cases e : i = y
    · subst e; simp [h]
    · simp [e]
theorem put_bM (M : Mm) (c t : Nat) {y : Nat} (hy : y < 32) (s x : Nat) : bM (uI M (1, c) t (M.1 (1, c) t ||| ((1 : Int32) <<< (nI y &&& 31)))) c s x ↔ bM M c s x ∨ (s = t ∧ x = y) := by
  unfold bM
  by_cases e : s = t
  · subst e
    rw [uI_at, b_or, b_bit hy, Bool.or_eq_true, decide_eq_true_eq]
    simp
  · rw [uI_off _ _ _ e]
    simp [e]
/-- one new pair at most -/
theorem Gr_put {ea eb : Ed} {nb : Nat} {M : Mm} {c t y : Nat} (ht : t < 4) (hy : y < 8) (hS : MS ea eb nb M c) (hm : Mt ea eb nb t y) (hn : ¬ bM M c t y) {C : Prop} : Gr c M 1 (uI M (1, c) t (M.1 (1, c) t ||| ((1 : Int32) <<< (nI y &&& 31)))) C ∧ MS ea eb nb (uI M (1, c) t (M.1 (1, c) t ||| ((1 : Int32) <<< (nI y &&& 31)))) c := by
  have hp := put_bM M c t (y := y) (by omega)
  refine ⟨⟨Frm.uI M t _ rfl, fun s x h => (hp s x).mpr (Or.inl h), Or.inr ⟨rfl, t, y, ht, hy, (hp t y).mpr (Or.inr ⟨rfl, rfl⟩), hn⟩⟩, fun s hs x hx h => ?_⟩
  rcases (hp s x).mp h with h | ⟨rfl, rfl⟩
  · exact hS s hs x hx h
  · exact ⟨hy, hm⟩
section MEETC
variable {na nb : Nat} {ga gb : Nat → Bool} {ea eb : Ed} {i j : Nat}
theorem spread_in {M0 M : Mm} {f v : Int32} {l s x : Nat} {C : Prop} (hi : i < 6) (hAa : AOK na ga ea) (hCa : CP M0 i na ga ea) (hv : ∀ q, q < 32 → (bt v q = true ↔ ea l s q = true)) (hm : Mt ea eb nb s x) (hG : Gr 11 M0 f M C) (hS : MS ea eb nb M 11) : ∃ r, lp (b_R_spreadMeeting_38 i v ((1 : Int32) <<< (nI (fl eb l x) &&& 31))) (f, 0, M) = some r ∧ (MS ea eb nb r.2.2 11 ∧ Gr 11 M0 r.1 r.2.2 (C ∧ ∀ t, ea l s t = true → bM M0 11 t (fl eb l x))) := by
  have hna := hAa.1
  have hy := fl_lt eb l x
  generalize hyy : fl eb l x = y at hy
  refine lp_for na (fun k st => st.2.1 = nI k ∧ MS ea eb nb st.2.2 11 ∧ Gr 11 M0 st.1 st.2.2 (C ∧ ∀ t, t < k → ea l s t = true → bM M0 11 t y)) _ (fun k st hk h => ?_) (fun st h => ?_) (k := 0) ⟨rfl, hS, hG.imp fun _ h => ⟨h, fun t ht => by omega⟩⟩ (by omega) (by omega)
  · obtain ⟨f1, i0, A⟩ := st
    obtain ⟨rfl, h2, h3⟩ := h
    have h2 : MS ea eb nb A 11 := h2
    have h3 : Gr 11 M0 f1 A (C ∧ ∀ t, t < k → ea l s t = true → bM M0 11 t y) := h3
    have hsz : A.1 (0, i) 0 = nI na := by rw [h3.1.1 (0, i) (by intro h; cases h)]; exact hCa.1
    have nx : (¬ ea l s k = true ∨ (A = M0 → bM M0 11 k y)) → Gr 11 M0 f1 A (C ∧ ∀ t, t < k + 1 → ea l s t = true → bM M0 11 t y) := fun hor => h3.imp fun hAM hc => ⟨hc.1, fun t ht he => by
      by_cases e : t = k
      · subst e
        rcases hor with h | h
        · exact absurd he h
        · exact h hAM
      · exact hc.2 t (by omega) he⟩
    unfold b_R_spreadMeeting_38
    show (∃ s', (if A.1 (0, i) 0 ≤ nI k then _ else _) = _ ∧ _) ∨ (∃ r, (if A.1 (0, i) 0 ≤ nI k then _ else _) = _ ∧ _)
    rw [if_lt hk (by omega) hsz]
    cases hb : bt v k
    · rw [if_pos ((b_tst v (by omega)).mpr hb)]
      refine Or.inl ⟨(f1, nI k + 1, A), rfl, nI_inc k, h2, nx (Or.inl fun h => ?_)⟩
      rw [(hv k (by omega)).mpr h] at hb
      cases hb
    · have he := (hv k (by omega)).mp hb
      rw [if_neg (by rw [b_tst v (by omega), hb]; simp), ck_of (vp_inb (vp_in_nI (N := 4) (by omega) (by omega))), nI_clamp (by omega)]
      cases hq : bt (A.1 (1, 11) k) y
      · rw [if_pos ((b_and_bit _ (by omega)).mpr hq), ck_of (vp_inb (vp_in_nI (N := 4) (by omega) (by omega))), ck_of (vp_inb (vp_in_nI (N := 4) (by omega) (by omega))), bd_some]
        obtain ⟨g1, g2⟩ := Gr_put (C := False) (show k < 4 by omega) hy h2 (by rw [← hyy]; exact Mt_s hm he) (show ¬ bM A 11 k y by unfold bM; rw [hq]; simp)
        exact Or.inl ⟨_, rfl, nI_inc k, g2, h3.trans g1 (by rw [if_neg (by decide)]) fun _ _ h => h.elim⟩
      · rw [if_neg (by rw [b_and_bit _ (by omega), hq]; simp)]
        exact Or.inl ⟨(f1, nI k + 1, A), rfl, nI_inc k, h2, nx (Or.inr fun hAM => by rw [← hAM]; exact hq)⟩
  · obtain ⟨f1, i0, A⟩ := st
    obtain ⟨rfl, h2, h3⟩ := h
    have h3 : Gr 11 M0 f1 A (C ∧ ∀ t, t < na → ea l s t = true → bM M0 11 t y) := h3
    have hsz : A.1 (0, i) 0 = nI na := by rw [h3.1.1 (0, i) (by intro h; cases h)]; exact hCa.1
    refine ⟨(f1, nI na, A), ?_, h2, h3.imp fun _ hc => ⟨hc.1, fun t he => hc.2 t (hAa.2.2 _ _ _ he).2.2 he⟩⟩
    unfold b_R_spreadMeeting_38
    show (if A.1 (0, i) 0 ≤ nI na then _ else _) = _
    rw [if_ge (Nat.le_refl _) (by omega) hsz]
end MEETC
