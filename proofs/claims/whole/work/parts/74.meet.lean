/-! sets of outer states that words lead to, as numbers below 8; which of them a word leads to that leads to an inner state -/
noncomputable def fl8 (e : Ed) (l x : Nat) : Nat := Classical.choose (num_of 3 (fun q => dB (∃ s, x.testBit s = true ∧ e l s q = true)))
theorem fl_lt (e : Ed) (l x : Nat) : fl8 e l x < 8 := (Classical.choose_spec (num_of 3 (fun q => dB (∃ s, x.testBit s = true ∧ e l s q = true)))).1
theorem fl_bit {e : Ed} (hs : ∀ l p q, e l p q = true → p < 3 ∧ q < 3) (l x q : Nat) : (fl8 e l x).testBit q = true ↔ ∃ s, x.testBit s = true ∧ e l s q = true := by
  by_cases hq : q < 3
  · rw [show (fl8 e l x).testBit q = _ from (Classical.choose_spec (num_of 3 (fun q => dB (∃ s, x.testBit s = true ∧ e l s q = true)))).2 q hq, dB_iff]
  · constructor
    · intro h
      have h8 : fl8 e l x < 2 ^ q := Nat.lt_of_lt_of_le (fl_lt e l x) (Nat.pow_le_pow_right (n := 2) (by omega) (show 3 ≤ q by omega))
      rw [Nat.testBit_lt_two_pow h8] at h
      cases h
    · rintro ⟨s, -, h⟩
      exact absurd (hs _ _ _ h).2 hq
noncomputable def fw (e : Ed) : List Nat → Nat → Nat
  | [], x => x
  | l :: u, x => fw e u (fl8 e l x)
theorem fw_app (e : Ed) : ∀ (u v : List Nat) (x : Nat), fw e (u ++ v) x = fw e v (fw e u x)
  | [], _, _ => rfl
  | l :: u, v, x => fw_app e u v (fl8 e l x)
theorem fw_bit {e : Ed} (hs : ∀ l p q, e l p q = true → p < 3 ∧ q < 3) : ∀ (u : List Nat) (x q : Nat), (fw e u x).testBit q = true ↔ ∃ s, x.testBit s = true ∧ pth e u s q
  | [], x, q => by
    constructor
    · intro h; exact ⟨q, h, rfl⟩
    · rintro ⟨s, h, h2⟩
      have h2 : s = q := h2
      rw [← h2]; exact h
  | l :: u, x, q => by
    show (fw e u (fl8 e l x)).testBit q = true ↔ _
    rw [fw_bit hs u]
    constructor
    · rintro ⟨m, h1, h2⟩
      obtain ⟨s, h3, h4⟩ := (fl_bit hs l x m).mp h1
      exact ⟨s, h3, m, h4, h2⟩
    · rintro ⟨s, h3, m, h4, h2⟩
      exact ⟨m, (fl_bit hs l x m).mpr ⟨s, h3, h4⟩, h2⟩
def x0 (n : Nat) : Nat := if 0 < n then 1 else 0
theorem x0_bit (n s : Nat) : (x0 n).testBit s = true ↔ 0 < n ∧ s = 0 := by
  unfold x0
  split
  · rw [show (1 : Nat) = 2 ^ 0 from rfl, Nat.testBit_two_pow, decide_eq_true_eq]
    constructor
    · intro h; exact ⟨by assumption, h.symm⟩
    · intro h; exact h.2.symm
  · rw [Nat.zero_testBit]
    constructor
    · intro h; cases h
    · rintro ⟨h, -⟩; contradiction
theorem x0_lt (n : Nat) : x0 n < 8 := by unfold x0; split <;> omega
theorem ok3 {n : Nat} {g : Nat → Bool} {e : Ed} (hA : AOK n g e) (hn : n ≤ 3) : ∀ l p q, e l p q = true → p < 3 ∧ q < 3 := fun l p q h => by
  have := hA.2.2 l p q h
  omega
/-- the lasso by the head's set and the tail's passage -/
theorem Tk_set {n : Nat} {g : Nat → Bool} {e : Ed} {u v : List Nat} {P : Int32} (hA : AOK n g e) (hn : n ≤ 3) (hP : Pw n g e (fun _ => True) v P) : Tk e g u v ↔ ∃ q, (fw e u (x0 n)).testBit q = true ∧ Rp P q := by
  constructor
  · intro hT
    have h0 := pth_start hA hT
    obtain ⟨q, c, k, j, h1, h2, h3⟩ := hT
    exact ⟨q, (fw_bit (ok3 hA hn) u _ q).mpr ⟨0, (x0_bit n 0).mpr ⟨h0, rfl⟩, h1⟩, (Rp_iff hA hP q).mpr ⟨pth_lt hA u h0 h1, c, k, j, h2, h3⟩⟩
  · rintro ⟨q, h1, h2⟩
    obtain ⟨s, h3, h4⟩ := (fw_bit (ok3 hA hn) u _ q).mp h1
    obtain ⟨-, rfl⟩ := (x0_bit n s).mp h3
    obtain ⟨-, c, k, j, h5, h6⟩ := (Rp_iff hA hP q).mp h2
    exact ⟨q, c, k, j, h4, h5, h6⟩
def Mt (ea eb : Ed) (nb s x : Nat) : Prop := ∃ u, pth ea u 0 s ∧ fw eb u (x0 nb) = x
theorem Mt_0 (ea eb : Ed) (nb : Nat) : Mt ea eb nb 0 (x0 nb) := ⟨[], rfl, rfl⟩
theorem Mt_s {ea eb : Ed} {nb s x l t : Nat} (h : Mt ea eb nb s x) (he : ea l s t = true) : Mt ea eb nb t (fl8 eb l x) := by
  obtain ⟨u, h1, h2⟩ := h
  refine ⟨u ++ [l], pth_j h1 ⟨t, he, rfl⟩, ?_⟩
  rw [fw_app, h2]
  rfl
theorem Mt_min {ea eb : Ed} {nb : Nat} (S : Nat → Nat → Prop) (h0 : S 0 (x0 nb)) (hc : ∀ s x, S s x → ∀ l t, ea l s t = true → S t (fl8 eb l x)) {s x : Nat} (h : Mt ea eb nb s x) : S s x := by
  obtain ⟨u, h1, h2⟩ := h
  have key : ∀ (u : List Nat) (p y : Nat), S p y → pth ea u p s → S s (fw eb u y) := by
    intro u
    induction u with
    | nil => intro p y h h1; cases h1; exact h
    | cons l u ih =>
      rintro p y h ⟨m, h3, h4⟩
      exact ih m _ (hc p y h l m h3) h4
  rw [← h2]
  exact key u 0 _ h0 h1
theorem fol_num {M : Mm} {j n : Nat} {g : Nat → Bool} {e : Ed} (hj : j < 7) (hA : AOK n g e) (hn : n ≤ 3) (hC : CP M j n g e) {x : Nat} (hx : x < 8) {l : Nat} (hl : l < 2) : m_A_followersOf j (nI x) (nI l) M = some (nI (fl8 e l x)) := by
  obtain ⟨v, h1, h2⟩ := followersOf_eq hj hC (nI x) hl
  rw [h1]
  congr 1
  refine b_ext fun q hq => ?_
  have h8 := fl_lt e l x
  rw [Bool.eq_iff_iff, h2 q hq, bt_nI (by omega), fl_bit (ok3 hA hn)]
  constructor
  · rintro ⟨s, -, h3, h4⟩
    rw [bt_nI (by omega)] at h3
    exact ⟨s, h3, h4⟩
  · rintro ⟨s, h3, h4⟩
    exact ⟨s, by have := (ok3 hA hn _ _ _ h4).1; omega, by rw [bt_nI (by omega)]; exact h3, h4⟩
/-! the search for meetings, in a row of cells c -/
def bM (M : Mm) (c s x : Nat) : Prop := bt (M.1 (1, c) s) x = true
def MS (ea eb : Ed) (nb : Nat) (M : Mm) (c : Nat) : Prop := ∀ s, s < 4 → ∀ x, x < 32 → bM M c s x → x < 8 ∧ Mt ea eb nb s x
def Gr (c : Nat) (M : Mm) (f : Int32) (M' : Mm) (C : Prop) : Prop := Frm (fun z => z = (1, c)) M M' ∧ (∀ s x, bM M c s x → bM M' c s x) ∧ ((f = 0 ∧ M' = M ∧ C) ∨ (f = 1 ∧ ∃ s x, s < 4 ∧ x < 8 ∧ bM M' c s x ∧ ¬ bM M c s x))
theorem Gr.rfl {c : Nat} {M : Mm} {C : Prop} (h : C) : Gr c M 0 M C := ⟨Frm.rfl, fun _ _ h => h, Or.inl ⟨Eq.refl _, Eq.refl _, h⟩⟩
theorem Gr.trans {c : Nat} {M M1 M2 : Mm} {f f1 f' : Int32} {C C1 C' : Prop} (h1 : Gr c M f M1 C) (h2 : Gr c M1 f1 M2 C1) (hf : f' = if f1 = 0 then f else 1) (hC : M1 = M → C → C1 → C') : Gr c M f' M2 C' := by
  refine ⟨h1.1.trans h2.1, fun s x h => h2.2.1 s x (h1.2.1 s x h), ?_⟩
  rcases h2.2.2 with ⟨a1, a2, a3⟩ | ⟨a1, s, x, a2, a3, a4, a5⟩
  · rcases h1.2.2 with ⟨b1, b2, b3⟩ | ⟨b1, s, x, b2, b3, b4, b5⟩
    · exact Or.inl ⟨by rw [hf, if_pos a1, b1], a2.trans b2, hC b2 b3 a3⟩
    · exact Or.inr ⟨by rw [hf, if_pos a1, b1], s, x, b2, b3, h2.2.1 s x b4, b5⟩
  · exact Or.inr ⟨by rw [hf, if_neg (by rw [a1]; decide)], s, x, a2, a3, a4, fun h => a5 (h1.2.1 s x h)⟩
theorem Gr.imp {c : Nat} {M M1 : Mm} {f : Int32} {C C' : Prop} (h1 : Gr c M f M1 C) (hC : M1 = M → C → C') : Gr c M f M1 C' := by
  refine ⟨h1.1, h1.2.1, ?_⟩
  rcases h1.2.2 with ⟨b1, b2, b3⟩ | h
  · exact Or.inl ⟨b1, b2, hC b2 b3⟩
  · exact Or.inr h
theorem Gr.bit {c : Nat} {M M1 : Mm} {f : Int32} {C : Prop} (h1 : Gr c M f M1 C) : f = 0 ∨ f = 1 := by
  rcases h1.2.2 with ⟨b1, -⟩ | ⟨b1, -⟩
  · exact Or.inl b1
  · exact Or.inr b1
theorem b_and_bit (x : Int32) {y : Nat} (hy : y < 32) : (x &&& ((1 : Int32) <<< (nI y &&& 31))) = 0 ↔ bt x y = false := by
  rw [b_eq0]
  constructor
  · intro h
    have := h y hy
    rw [b_and, b_bit hy] at this
    simpa using this
  · intro h i hi
    rw [b_and, b_bit hy]
    by_cases e : i = y
    · subst e; simp [h]
    · simp [e]
theorem put_bM (M : Mm) (c t : Nat) {y : Nat} (hy : y < 32) (s x : Nat) : bM (uI M (1, c) t (M.1 (1, c) t ||| ((1 : Int32) <<< (nI y &&& 31)))) c s x ↔ bM M c s x ∨ (s = t ∧ x = y) := by
  unfold bM
  by_cases e : s = t
  · subst e
    rw [uI_at, b_or, b_bit hy, Bool.or_eq_true, decide_eq_true_eq]
    simp
  · rw [uI_off _ _ _ e]
    simp [e]
/-- one new pair at most -/
theorem Gr_put {ea eb : Ed} {nb : Nat} {M : Mm} {c t y : Nat} (ht : t < 4) (hy : y < 8) (hS : MS ea eb nb M c) (hm : Mt ea eb nb t y) (hn : ¬ bM M c t y) {C : Prop} : Gr c M 1 (uI M (1, c) t (M.1 (1, c) t ||| ((1 : Int32) <<< (nI y &&& 31)))) C ∧ MS ea eb nb (uI M (1, c) t (M.1 (1, c) t ||| ((1 : Int32) <<< (nI y &&& 31)))) c := by
  have hp := put_bM M c t (y := y) (by omega)
  refine ⟨⟨Frm.uI M t _ rfl, fun s x h => (hp s x).mpr (Or.inl h), Or.inr ⟨rfl, t, y, ht, hy, (hp t y).mpr (Or.inr ⟨rfl, rfl⟩), hn⟩⟩, fun s hs x hx h => ?_⟩
  rcases (hp s x).mp h with h | ⟨rfl, rfl⟩
  · exact hS s hs x hx h
  · exact ⟨hy, hm⟩
theorem in11 {k : Nat} (hk : k < 4) : inb (nI k) (lenI 11) = true := vp_inb (vp_in_nI (N := 4) hk (by omega))
section MEETC
variable {na nb : Nat} {ga gb : Nat → Bool} {ea eb : Ed} {i j : Nat}
theorem spread_in {M0 M : Mm} {f v : Int32} {l s x : Nat} {C : Prop} (hi : i < 6) (hAa : AOK na ga ea) (hCa : CP M0 i na ga ea) (hv : ∀ q, q < 32 → (bt v q = true ↔ ea l s q = true)) (hm : Mt ea eb nb s x) (hG : Gr 11 M0 f M C) (hS : MS ea eb nb M 11) : ∃ r, lp (b_R_spreadMeeting_38 i v ((1 : Int32) <<< (nI (fl8 eb l x) &&& 31))) (f, 0, M) = some r ∧ (MS ea eb nb r.2.2 11 ∧ Gr 11 M0 r.1 r.2.2 (C ∧ ∀ t, ea l s t = true → bM M0 11 t (fl8 eb l x))) := by
  have hna := hAa.1
  have hy := fl_lt eb l x
  generalize hyy : fl8 eb l x = y at hy
  refine lp_for na (fun k st => st.2.1 = nI k ∧ MS ea eb nb st.2.2 11 ∧ Gr 11 M0 st.1 st.2.2 (C ∧ ∀ t, t < k → ea l s t = true → bM M0 11 t y)) _ (fun k st hk h => ?_) (fun st h => ?_) (k := 0) ⟨rfl, hS, hG.imp fun _ h => ⟨h, fun t ht => by omega⟩⟩ (by omega) (by omega)
  · obtain ⟨f1, i0, A⟩ := st
    obtain ⟨rfl, h2, h3⟩ := h
    have h2 : MS ea eb nb A 11 := h2
    have h3 : Gr 11 M0 f1 A (C ∧ ∀ t, t < k → ea l s t = true → bM M0 11 t y) := h3
    have hsz : A.1 (0, i) 0 = nI na := by rw [h3.1.1 (0, i) (by intro h; cases h)]; exact hCa.1
    have nx : (¬ ea l s k = true ∨ (A = M0 → bM M0 11 k y)) → Gr 11 M0 f1 A (C ∧ ∀ t, t < k + 1 → ea l s t = true → bM M0 11 t y) := fun hor => h3.imp fun hAM hc => ⟨hc.1, fun t ht he => by
      by_cases e : t = k
      · subst e
        rcases hor with h | h
        · exact absurd he h
        · exact h hAM
      · exact hc.2 t (by omega) he⟩
    unfold b_R_spreadMeeting_38
    show (∃ s', (if A.1 (0, i) 0 ≤ nI k then _ else _) = _ ∧ _) ∨ (∃ r, (if A.1 (0, i) 0 ≤ nI k then _ else _) = _ ∧ _)
    rw [if_lt hk (by omega) hsz]
    cases hb : bt v k
    · rw [if_pos ((b_tst v (by omega)).mpr hb)]
      refine Or.inl ⟨(f1, nI k + 1, A), rfl, nI_inc k, h2, nx (Or.inl fun h => ?_)⟩
      rw [(hv k (by omega)).mpr h] at hb
      cases hb
    · have he := (hv k (by omega)).mp hb
      rw [if_neg (by rw [b_tst v (by omega), hb]; simp)]
      dsimp only
      rw [ck_of (in11 (show k < 4 by omega)), nI_clamp (by omega)]
      cases hq : bt (A.1 (1, 11) k) y
      · rw [if_pos ((b_and_bit _ (by omega)).mpr hq), ck_of (in11 (show k < 4 by omega)), ck_of (in11 (show k < 4 by omega)), bd_some]
        obtain ⟨g1, g2⟩ := Gr_put (C := False) (show k < 4 by omega) hy h2 (by rw [← hyy]; exact Mt_s hm he) (show ¬ bM A 11 k y by unfold bM; rw [hq]; simp)
        exact Or.inl ⟨_, rfl, nI_inc k, g2, h3.trans g1 (by rw [if_neg (by decide)]) fun _ _ h => h.elim⟩
      · rw [if_neg (by rw [b_and_bit _ (by omega), hq]; simp)]
        exact Or.inl ⟨(f1, nI k + 1, A), rfl, nI_inc k, h2, nx (Or.inr fun hAM => by rw [← hAM]; exact hq)⟩
  · obtain ⟨f1, i0, A⟩ := st
    obtain ⟨rfl, h2, h3⟩ := h
    have h3 : Gr 11 M0 f1 A (C ∧ ∀ t, t < na → ea l s t = true → bM M0 11 t y) := h3
    have hsz : A.1 (0, i) 0 = nI na := by rw [h3.1.1 (0, i) (by intro h; cases h)]; exact hCa.1
    refine ⟨(f1, nI na, A), ?_, h2, h3.imp fun _ hc => ⟨hc.1, fun t he => hc.2 t (hAa.2.2 _ _ _ he).2.2 he⟩⟩
    unfold b_R_spreadMeeting_38
    show (if A.1 (0, i) 0 ≤ nI na then _ else _) = _
    rw [if_ge (Nat.le_refl _) (by omega) hsz]
/-- the cells other than c, by a search for meetings in c -/
theorem spreadM_eq {M : Mm} {s x : Nat} (hi : i < 6) (hj : j < 6) (hAa : AOK na ga ea) (hAb : AOK nb gb eb) (hnb : nb ≤ 3) (hCa : CP M i na ga ea) (hCb : CP M j nb gb eb) (hs : s < 4) (hx : x < 8) (hm : Mt ea eb nb s x) (hS : MS ea eb nb M 11) : ∃ b M', m_R_spreadMeeting i j (nI s) (nI x) M = some (b, M') ∧ MS ea eb nb M' 11 ∧ Gr 11 M (bI b) M' (∀ l t, ea l s t = true → bM M 11 t (fl8 eb l x)) := by
  have h : ∃ r, lp (b_R_spreadMeeting_6 i j (nI s) (nI x)) (0, 0, M) = some r ∧ (MS ea eb nb r.2.2 11 ∧ Gr 11 M r.1 r.2.2 (∀ l, l < 2 → ∀ t, ea l s t = true → bM M 11 t (fl8 eb l x))) := by
    refine lp_for 2 (fun k st => st.2.1 = nI k ∧ MS ea eb nb st.2.2 11 ∧ Gr 11 M st.1 st.2.2 (∀ l, l < k → ∀ t, ea l s t = true → bM M 11 t (fl8 eb l x))) _ (fun k st hk h => ?_) (fun st h => ?_) (k := 0) ⟨rfl, hS, Gr.rfl fun l hl => by omega⟩ (by omega) (by omega)
    · obtain ⟨f1, i0, A⟩ := st
      obtain ⟨rfl, h2, h3⟩ := h
      have h2 : MS ea eb nb A 11 := h2
      have h3 : Gr 11 M f1 A (∀ l, l < k → ∀ t, ea l s t = true → bM M 11 t (fl8 eb l x)) := h3
      have cA : CP A i na ga ea := CP_frm hCa h3.1 (by intro h; cases h) (by intro h; cases h; omega)
      have cB : CP A j nb gb eb := CP_frm hCb h3.1 (by intro h; cases h) (by intro h; cases h; omega)
      obtain ⟨v, v1, v2⟩ := followersOf_eq (show i < 7 by omega) cA ((1 : Int32) <<< (nI s &&& 31)) hk
      obtain ⟨r, r1, r2, r3⟩ := spread_in (eb := eb) (nb := nb) (x := x) (v := v) (l := k) (s := s) hi hAa hCa (fun q hq => by
        rw [v2 q hq]
        constructor
        · rintro ⟨s', -, a, b⟩
          rw [b_bit (by omega), decide_eq_true_eq] at a
          rw [← a]; exact b
        · intro b
          exact ⟨s, hs, by rw [b_bit (by omega)]; simp, b⟩) hm h3 h2
      refine Or.inl ⟨(r.1, nI (k + 1), r.2.2), ?_, rfl, r2, r3.imp fun _ hc l hl t he => ?_⟩
      · unfold b_R_spreadMeeting_6
        show (if (2 : Int32) ≤ nI k then _ else _) = _
        rw [if_lt (x := 2) (B := 2) hk (by omega) rfl]
        show bd (m_A_followersOf i ((1 : Int32) <<< (nI s &&& 31)) (nI k) A) _ = _
        rw [v1, bd_some]
        show bd (m_A_followersOf j (nI x) (nI k) A) _ = _
        rw [fol_num (by omega) hAb hnb cB hx hk, bd_some, r1, bd_some, nI_inc]
      · by_cases e : l = k
        · subst e; exact hc.2 t he
        · exact hc.1 l (by omega) t he
    · obtain ⟨f1, i0, A⟩ := st
      obtain ⟨rfl, h2, h3⟩ := h
      refine ⟨(f1, nI 2, A), ?_, h2, h3⟩
      unfold b_R_spreadMeeting_6
      show (if (2 : Int32) ≤ nI 2 then _ else _) = _
      rw [if_ge (x := 2) (B := 2) (Nat.le_refl 2) (by omega) rfl]
  obtain ⟨r, h1, h2, h3⟩ := h
  have h4 := h3.imp (C' := ∀ l t, ea l s t = true → bM M 11 t (fl8 eb l x)) fun _ hc l t he => hc l (hAa.2.2 _ _ _ he).1 t he
  unfold m_R_spreadMeeting
  rw [h1, bd_some]
  rcases h3.bit with e | e
  · exact ⟨false, r.2.2, by rw [e]; rfl, h2, by rw [e] at h4; exact h4⟩
  · exact ⟨true, r.2.2, by rw [e]; rfl, h2, by rw [e] at h4; exact h4⟩
def NX (ea eb : Ed) (M : Mm) (c s x : Nat) : Prop := ∀ l t, ea l s t = true → bM M c t (fl8 eb l x)
theorem fmeet_in {M0 M : Mm} {f : Int32} {s : Nat} {C : Prop} (hi : i < 6) (hj : j < 6) (hAa : AOK na ga ea) (hAb : AOK nb gb eb) (hnb : nb ≤ 3) (hCa : CP M0 i na ga ea) (hCb : CP M0 j nb gb eb) (hs : s < 4) (hG : Gr 11 M0 f M C) (hS : MS ea eb nb M 11) : ∃ r, lp (b_R_findMeetings_58 i j (nI s)) (f, 0, M) = some r ∧ (MS ea eb nb r.2.2 11 ∧ Gr 11 M0 r.1 r.2.2 (C ∧ ∀ x, x < 8 → bM M0 11 s x → NX ea eb M0 11 s x)) := by
  refine lp_for 8 (fun k st => st.2.1 = nI k ∧ MS ea eb nb st.2.2 11 ∧ Gr 11 M0 st.1 st.2.2 (C ∧ ∀ x, x < k → bM M0 11 s x → NX ea eb M0 11 s x)) _ (fun k st hk h => ?_) (fun st h => ?_) (k := 0) ⟨rfl, hS, hG.imp fun _ h => ⟨h, fun t ht => by omega⟩⟩ (by omega) (by omega)
  · obtain ⟨f1, i0, A⟩ := st
    obtain ⟨rfl, h2, h3⟩ := h
    have h2 : MS ea eb nb A 11 := h2
    have h3 : Gr 11 M0 f1 A (C ∧ ∀ x, x < k → bM M0 11 s x → NX ea eb M0 11 s x) := h3
    have cA : CP A i na ga ea := CP_frm hCa h3.1 (by intro h; cases h) (by intro h; cases h; omega)
    have cB : CP A j nb gb eb := CP_frm hCb h3.1 (by intro h; cases h) (by intro h; cases h; omega)
    unfold b_R_findMeetings_58
    show (∃ s', (if (8 : Int32) ≤ nI k then _ else _) = _ ∧ _) ∨ (∃ r, (if (8 : Int32) ≤ nI k then _ else _) = _ ∧ _)
    rw [if_lt (x := 8) (B := 8) hk (by omega) rfl]
    dsimp only
    rw [ck_of (in11 hs), nI_clamp (by omega)]
    cases hq : bt (A.1 (1, 11) s) k
    · rw [if_pos ((b_tst _ (by omega)).mpr hq)]
      refine Or.inl ⟨(f1, nI k + 1, A), rfl, nI_inc k, h2, h3.imp fun hAM hc => ⟨hc.1, fun x hx hb => ?_⟩⟩
      by_cases e : x = k
      · subst e
        rw [← hAM] at hb
        have hb : bt (A.1 (1, 11) s) x = true := hb
        rw [hq] at hb; cases hb
      · exact hc.2 x (by omega) hb
    · rw [if_neg (by rw [b_tst _ (by omega), hq]; simp)]
      obtain ⟨b, B, b1, b2, b3⟩ := spreadM_eq hi hj hAa hAb hnb cA cB hs hk (h2 s hs k (by omega) hq).2 h2
      show (∃ s', bd (m_R_spreadMeeting i j (nI s) (nI k) A) _ = _ ∧ _) ∨ _
      rw [b1, bd_some]
      have tl : ∀ f', f' = (if bI b = 0 then f1 else 1) → Gr 11 M0 f' B (C ∧ ∀ x, x < k + 1 → bM M0 11 s x → NX ea eb M0 11 s x) := fun f' hf => h3.trans b3 hf fun hAM hc hn => ⟨hc.1, fun x hx hb => by
        by_cases e : x = k
        · subst e; rw [← hAM]; exact hn
        · exact hc.2 x (by omega) hb⟩
      by_cases hz : bI b = 0
      · rw [if_pos hz]
        exact Or.inl ⟨(f1, nI k + 1, B), rfl, nI_inc k, b2, tl f1 (by rw [if_pos hz])⟩
      · rw [if_neg hz]
        exact Or.inl ⟨(1, nI k + 1, B), rfl, nI_inc k, b2, tl 1 (by rw [if_neg hz])⟩
  · obtain ⟨f1, i0, A⟩ := st
    obtain ⟨rfl, h2, h3⟩ := h
    refine ⟨(f1, nI 8, A), ?_, h2, h3⟩
    unfold b_R_findMeetings_58
    show (if (8 : Int32) ≤ nI 8 then _ else _) = _
    rw [if_ge (x := 8) (B := 8) (Nat.le_refl 8) (by omega) rfl]
theorem fmeet_round {M : Mm} (hi : i < 6) (hj : j < 6) (hAa : AOK na ga ea) (hAb : AOK nb gb eb) (hnb : nb ≤ 3) (hCa : CP M i na ga ea) (hCb : CP M j nb gb eb) (hS : MS ea eb nb M 11) : ∃ r, lp (b_R_findMeetings_46 i j) (0, 0, M) = some r ∧ (MS ea eb nb r.2.2 11 ∧ Gr 11 M r.1 r.2.2 (∀ s, s < na → ∀ x, x < 8 → bM M 11 s x → NX ea eb M 11 s x)) := by
  have hna := hAa.1
  refine lp_for na (fun k st => st.2.1 = nI k ∧ MS ea eb nb st.2.2 11 ∧ Gr 11 M st.1 st.2.2 (∀ s, s < k → ∀ x, x < 8 → bM M 11 s x → NX ea eb M 11 s x)) _ (fun k st hk h => ?_) (fun st h => ?_) (k := 0) ⟨rfl, hS, Gr.rfl fun l hl => by omega⟩ (by omega) (by omega)
  · obtain ⟨f1, i0, A⟩ := st
    obtain ⟨rfl, h2, h3⟩ := h
    have h3 : Gr 11 M f1 A (∀ s, s < k → ∀ x, x < 8 → bM M 11 s x → NX ea eb M 11 s x) := h3
    have hsz : A.1 (0, i) 0 = nI na := by rw [h3.1.1 (0, i) (by intro h; cases h)]; exact hCa.1
    obtain ⟨r, r1, r2, r3⟩ := fmeet_in hi hj hAa hAb hnb hCa hCb (show k < 4 by omega) h3 h2
    refine Or.inl ⟨(r.1, nI (k + 1), r.2.2), ?_, rfl, r2, r3.imp fun _ hc s hs => ?_⟩
    · unfold b_R_findMeetings_46
      show (if A.1 (0, i) 0 ≤ nI k then _ else _) = _
      rw [if_lt hk (by omega) hsz]
      show bd (lp (b_R_findMeetings_58 i j (nI k)) (f1, 0, A)) _ = _
      rw [r1, bd_some, nI_inc]
    · by_cases e : s = k
      · subst e; exact hc.2
      · exact hc.1 s (by omega)
  · obtain ⟨f1, i0, A⟩ := st
    obtain ⟨rfl, h2, h3⟩ := h
    have h3 : Gr 11 M f1 A (∀ s, s < na → ∀ x, x < 8 → bM M 11 s x → NX ea eb M 11 s x) := h3
    have hsz : A.1 (0, i) 0 = nI na := by rw [h3.1.1 (0, i) (by intro h; cases h)]; exact hCa.1
    refine ⟨(f1, nI na, A), ?_, h2, h3⟩
    unfold b_R_findMeetings_46
    show (if A.1 (0, i) 0 ≤ nI na then _ else _) = _
    rw [if_ge (Nat.le_refl _) (by omega) hsz]
def cM (M : Mm) (c : Nat) : Nat := (List.range 32).countP fun k => bt (M.1 (1, c) (k / 8)) (k % 8)
theorem cM_le (M : Mm) (c : Nat) : cM M c ≤ 32 := by
  have := List.countP_le_length (p := fun k => bt (M.1 (1, c) (k / 8)) (k % 8)) (l := List.range 32)
  simpa [cM] using this
theorem cM_lt {M M' : Mm} {c : Nat} (h : ∀ s x, bM M c s x → bM M' c s x) (hn : ∃ s x, s < 4 ∧ x < 8 ∧ bM M' c s x ∧ ¬ bM M c s x) : cM M c < cM M' c := by
  obtain ⟨s, x, hs, hx, h1, h2⟩ := hn
  refine countP_lt _ _ _ (fun k _ hk => h _ _ hk) ⟨8 * s + x, List.mem_range.mpr (by omega), ?_, ?_⟩
  · show bt (M'.1 (1, c) ((8 * s + x) / 8)) ((8 * s + x) % 8) = true
    rw [show (8 * s + x) / 8 = s by omega, show (8 * s + x) % 8 = x by omega]
    exact h1
  · show bt (M.1 (1, c) ((8 * s + x) / 8)) ((8 * s + x) % 8) = false
    rw [show (8 * s + x) / 8 = s by omega, show (8 * s + x) % 8 = x by omega]
    cases hb : bt (M.1 (1, c) s) x
    · rfl
    · exact absurd hb h2
/-- the row c holds just what meets -/
def MtOK (ea eb : Ed) (nb : Nat) (M : Mm) (c : Nat) : Prop := ∀ s, s < 4 → ∀ x, x < 32 → (bM M c s x ↔ Mt ea eb nb s x)
theorem MtOK_of {M : Mm} {c : Nat} (hAa : AOK na ga ea) (hS : MS ea eb nb M c) (h0 : bM M c 0 (x0 nb)) (hc : ∀ s, s < na → ∀ x, x < 8 → bM M c s x → NX ea eb M c s x) : MtOK ea eb nb M c := fun s hs x hx => by
  have hna := hAa.1
  constructor
  · intro h; exact (hS s hs x hx h).2
  · intro h
    refine (Mt_min (fun s x => s < 4 ∧ x < 8 ∧ bM M c s x) ⟨by omega, x0_lt nb, h0⟩ (fun s x h l t he => ?_) h).2.2
    obtain ⟨-, h1, h2⟩ := h
    have := hAa.2.2 _ _ _ he
    exact ⟨by omega, fl_lt _ _ _, hc s (by omega) x h1 h2 l t he⟩
theorem shl_x0 (n : Nat) : (if 0 < n then ((1 : Int32) <<< ((1 : Int32) &&& 31)) else ((1 : Int32) <<< ((0 : Int32) &&& 31))) = (1 : Int32) <<< (nI (x0 n) &&& 31) := by
  unfold x0
  split <;> rfl
theorem findM_eq {M : Mm} (hi : i < 6) (hj : j < 6) (hAa : AOK na ga ea) (hAb : AOK nb gb eb) (hnb : nb ≤ 3) (hCa : CP M i na ga ea) (hCb : CP M j nb gb eb) (h0 : ∀ s, s < 4 → M.1 (1, 11) s = 0) : ∃ M', m_R_findMeetings i j M = some M' ∧ MtOK ea eb nb M' 11 ∧ Frm (fun z => z = (1, 11)) M M' := by
  have hx8 := x0_lt nb
  let M1 := uI M (1, 11) 0 ((1 : Int32) <<< (nI (x0 nb) &&& 31))
  have hM1 : ∀ s, s < 4 → ∀ x, bM M1 11 s x → s = 0 ∧ x = x0 nb := fun s hs x h => by
    have h : bt (M1.1 (1, 11) s) x = true := h
    by_cases e : s = 0
    · subst e
      rw [show M1.1 (1, 11) 0 = _ from uI_at _ _ _ _, b_bit (by omega), decide_eq_true_eq] at h
      exact ⟨rfl, h⟩
    · rw [show M1.1 (1, 11) s = _ from uI_off _ _ _ e, h0 s hs, b_0] at h
      cases h
  have hS1 : MS ea eb nb M1 11 := fun s hs x hx h => by
    obtain ⟨rfl, rfl⟩ := hM1 s hs x h
    exact ⟨hx8, Mt_0 ea eb nb⟩
  have hF1 : Frm (fun z => z = (1, 11)) M M1 := Frm.uI M 0 _ rfl
  have h01 : bM M1 11 0 (x0 nb) := by
    show bt (M1.1 (1, 11) 0) (x0 nb) = true
    rw [show M1.1 (1, 11) 0 = _ from uI_at _ _ _ _, b_bit (by omega)]
    simp
  have hlp : ∃ r, lp (b_R_findMeetings_28 i j) (1, 0, M1) = some r ∧ (MtOK ea eb nb r.2.2 11 ∧ Frm (fun z => z = (1, 11)) M r.2.2) := by
    refine lp_for 32 (fun k st => st.2.1 = nI k ∧ MS ea eb nb st.2.2 11 ∧ Frm (fun z => z = (1, 11)) M st.2.2 ∧ bM st.2.2 11 0 (x0 nb) ∧ ((st.1 = 1 ∧ k + 1 ≤ cM st.2.2 11) ∨ (st.1 = 0 ∧ ∀ s, s < na → ∀ x, x < 8 → bM st.2.2 11 s x → NX ea eb st.2.2 11 s x))) _ (fun k st hk h => ?_) (fun st h => ?_) (k := 0) ⟨rfl, hS1, hF1, h01, Or.inl ⟨rfl, ?_⟩⟩ (by omega) (by omega)
    · obtain ⟨f1, i0, A⟩ := st
      obtain ⟨rfl, h2, h3, h4, h5⟩ := h
      have h2 : MS ea eb nb A 11 := h2
      have h3 : Frm (fun z => z = (1, 11)) M A := h3
      have cA : CP A i na ga ea := CP_frm hCa h3 (by intro h; cases h) (by intro h; cases h; omega)
      have cB : CP A j nb gb eb := CP_frm hCb h3 (by intro h; cases h) (by intro h; cases h; omega)
      unfold b_R_findMeetings_28
      show (∃ s', (if (32 : Int32) ≤ nI k then _ else _) = _ ∧ _) ∨ (∃ r, (if (32 : Int32) ≤ nI k then _ else _) = _ ∧ _)
      rw [if_lt (x := 32) (B := 32) hk (by omega) rfl]
      rcases h5 with ⟨e1, h5⟩ | ⟨e0, h5⟩
      · have e1 : f1 = 1 := e1
        subst e1
        rw [if_neg (show ¬ (1 : Int32) = 0 by decide)]
        obtain ⟨r, r1, r2, r3⟩ := fmeet_round hi hj hAa hAb hnb cA cB h2
        refine Or.inl ⟨(r.1, nI (k + 1), r.2.2), ?_, rfl, r2, h3.trans r3.1, r3.2.1 _ _ h4, ?_⟩
        · show bd (lp (b_R_findMeetings_46 i j) (0, 0, A)) _ = _
          rw [r1, bd_some, nI_inc]
        · rcases r3.2.2 with ⟨a1, a2, a3⟩ | ⟨a1, a2⟩
          · exact Or.inr ⟨a1, by show ∀ s, s < na → ∀ x, x < 8 → bM r.2.2 11 s x → NX ea eb r.2.2 11 s x; rw [a2]; exact a3⟩
          · refine Or.inl ⟨a1, ?_⟩
            have := cM_lt r3.2.1 a2
            have h5 : k + 1 ≤ cM A 11 := h5
            show k + 1 + 1 ≤ cM r.2.2 11
            omega
      · have e0 : f1 = 0 := e0
        subst e0
        rw [if_pos rfl]
        exact Or.inr ⟨(0, nI k, A), rfl, MtOK_of hAa h2 h4 h5, h3⟩
    · obtain ⟨f1, i0, A⟩ := st
      obtain ⟨rfl, h2, h3, h4, h5⟩ := h
      refine ⟨(f1, nI 32, A), ?_, ?_, h3⟩
      · unfold b_R_findMeetings_28
        show (if (32 : Int32) ≤ nI 32 then _ else _) = _
        rw [if_ge (x := 32) (B := 32) (Nat.le_refl 32) (by omega) rfl]
      · rcases h5 with ⟨-, h5⟩ | ⟨-, h5⟩
        · have := cM_le A 11
          have h5 : 32 + 1 ≤ cM A 11 := h5
          omega
        · exact MtOK_of hAa h2 h4 h5
    · have : 0 < cM M1 11 := List.countP_pos_iff.mpr ⟨x0 nb, List.mem_range.mpr (by omega), by
        show bt (M1.1 (1, 11) (x0 nb / 8)) (x0 nb % 8) = true
        rw [show x0 nb / 8 = 0 by omega, show x0 nb % 8 = x0 nb by omega]
        exact h01⟩
      exact this
  obtain ⟨r, h1, h2, h3⟩ := hlp
  refine ⟨r.2.2, ?_, h2, h3⟩
  have hsh := shl_x0 nb
  have hnb4 := hAb.1
  unfold m_R_findMeetings
  by_cases hz : 0 < nb
  · rw [if_pos hz] at hsh
    rw [if_neg (by rw [hCb.1]; exact nI_nle hz (by omega)), ck_of (show inb 0 (lenI 11) = true from in11 (k := 0) (by omega)), bd_some, hsh]
    show bd (lp (b_R_findMeetings_28 i j) (1, 0, M1)) _ = _
    rw [h1, bd_some]
  · rw [if_neg hz] at hsh
    have hz0 : nb = 0 := by omega
    rw [if_pos (by rw [hCb.1, hz0]; exact Int32.le_refl _), ck_of (show inb 0 (lenI 11) = true from in11 (k := 0) (by omega)), bd_some, hsh]
    show bd (lp (b_R_findMeetings_28 i j) (1, 0, M1)) _ = _
    rw [h1, bd_some]
end MEETC
