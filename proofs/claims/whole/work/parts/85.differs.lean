/-! the reference's differs -/
theorem Pw_ex {n : Nat} {g : Nat → Bool} {e : Ed} (hA : AOK n g e) (v : List Nat) : ∃ P, Pw n g e (fun _ => True) v P := by
  have hn := hA.1
  obtain ⟨A, h1, h2⟩ := num_of 32 (fun i => dB (i / 8 < n ∧ if i % 8 < 4 then pth e v (i / 8) (i % 8) else gth e g v (i / 8) (i % 8 - 4)))
  refine ⟨nI A, fun x y => ?_, fun x y => ?_⟩
  · constructor
    · intro h
      obtain ⟨hx, hy⟩ := rE_lt h
      rw [rE_bt hx hy, bt_nI h1, h2 _ (by omega), dB_iff, show (8 * x + y) / 8 = x by omega, show (8 * x + y) % 8 = y by omega, if_pos hy] at h
      exact ⟨h.1, trivial, h.2⟩
    · rintro ⟨hx, -, h⟩
      have hy := pth_lt hA v hx h
      rw [rE_bt (by omega) (by omega), bt_nI h1, h2 _ (by omega), dB_iff, show (8 * x + y) / 8 = x by omega, show (8 * x + y) % 8 = y by omega, if_pos (by omega)]
      exact ⟨hx, h⟩
  · constructor
    · intro h
      obtain ⟨hx, hy⟩ := rG_lt h
      rw [rG_bt hx hy, bt_nI h1, h2 _ (by omega), dB_iff, show (8 * x + 4 + y) / 8 = x by omega, show (8 * x + 4 + y) % 8 = 4 + y by omega, if_neg (by omega), show 4 + y - 4 = y by omega] at h
      exact ⟨h.1, trivial, h.2⟩
    · rintro ⟨hx, -, h⟩
      have hy := pth_lt hA v hx (gth_pth _ _ _ h)
      rw [rG_bt (by omega) (by omega), bt_nI h1, h2 _ (by omega), dB_iff, show (8 * x + 4 + y) / 8 = x by omega, show (8 * x + 4 + y) % 8 = 4 + y by omega, if_neg (by omega), show 4 + y - 4 = y by omega]
      exact ⟨hx, h⟩
theorem misses_eq (st t : Int32) : ∃ f, m_M_misses st t = some f ∧ (f = true ↔ ∃ x, x < 8 ∧ bt st x = true ∧ (nI x &&& t) = 0) := by
  have h3 : ∃ r', lp (b_M_misses_2 st t) 0 = some r' ∧ ((r' = .inr true ∧ ∃ x, x < 8 ∧ bt st x = true ∧ (nI x &&& t) = 0) ∨ (∃ s, r' = .inl s ∧ ∀ x, x < 8 → bt st x = true → ¬ (nI x &&& t) = 0)) := by
    refine lp_for 8 (fun k s => s = nI k ∧ ∀ x, x < k → bt st x = true → ¬ (nI x &&& t) = 0) _ (fun k s hk h => ?_) (fun s h => ?_) (k := 0) ⟨rfl, fun x hx => by omega⟩ (by omega) (by omega)
    · obtain ⟨rfl, h4⟩ := h
      unfold b_M_misses_2
      rw [if_lt (x := 8) (B := 8) hk (by omega) rfl]
      have nx : (bt st k = true → ¬ (nI k &&& t) = 0) → ∀ x, x < k + 1 → bt st x = true → ¬ (nI x &&& t) = 0 := fun hn x hx hb => by
        by_cases e : x = k
        · subst e; exact hn hb
        · exact h4 x (by omega) hb
      cases hb : bt st k
      · rw [if_neg (by rw [b_tst1 _ (by omega), hb]; simp)]
        exact Or.inl ⟨_, rfl, nI_inc k, nx (fun h => by rw [hb] at h; cases h)⟩
      · rw [if_pos (by rw [b_tst1 _ (by omega), hb])]
        by_cases hz : (nI k &&& t) = 0
        · rw [if_pos hz]
          exact Or.inr ⟨_, rfl, Or.inl ⟨rfl, k, hk, hb, hz⟩⟩
        · rw [if_neg hz]
          exact Or.inl ⟨_, rfl, nI_inc k, nx fun _ => hz⟩
    · obtain ⟨rfl, h4⟩ := h
      refine ⟨.inl (nI 8), ?_, Or.inr ⟨_, rfl, h4⟩⟩
      unfold b_M_misses_2
      rw [if_ge (x := 8) (B := 8) (Nat.le_refl 8) (by omega) rfl]
  unfold m_M_misses
  obtain ⟨r', h3, ⟨rfl, h4⟩ | ⟨s, rfl, h4⟩⟩ := h3
  · rw [h3, bd_some]
    exact ⟨true, rfl, fun _ => h4, fun _ => rfl⟩
  · rw [h3, bd_some]
    exact ⟨false, rfl, fun h => (by cases h), fun ⟨x, hx, a1, a2⟩ => absurd a2 (h4 x hx a1)⟩
theorem set_tst {P t : Int32} (ht : ∀ q, q < 32 → (bt t q = true ↔ Rp P q)) {x : Nat} (hx : x < 8) : (nI x &&& t) = 0 ↔ ¬ ∃ q, x.testBit q = true ∧ Rp P q := by
  rw [b_eq0]
  constructor
  · rintro h ⟨q, a1, a2⟩
    have hq : q < 4 := by
      obtain ⟨c, y, z, -⟩ := a2
      exact (pl_lt (fun _ _ h => rE_lt h) z).1
    have := h q (by omega)
    rw [b_and, bt_nI (by omega), a1, (ht q (by omega)).mpr a2] at this
    cases this
  · intro h q hq
    cases hb : bt (nI x &&& t) q
    · rfl
    · rw [b_and, Bool.and_eq_true, bt_nI (by omega)] at hb
      exact absurd ⟨q, hb.1, (ht q hq).mp hb.2⟩ h
section DIFF
variable {na nb : Nat} {ga gb : Nat → Bool} {ea eb : Ed} {a b : Nat}
/-- one state's turn -/
theorem diff_in {M : Mm} {fr : Nat} (ha : a < 6) (hb : b < 6) (hAa : AOK na ga ea) (hAb : AOK nb gb eb) (hnb : nb ≤ 3) (hRb : RP M b nb gb eb) (hfr : fr < na) (hMt : MtOK ea eb nb M 22) (hSd : ∀ x, x < 157504 → sb M 0 x → Sd na ga ea nb gb eb fr x) : ∃ r, lp (b_M_differs_48 (nI b) (nI fr) (nI (19683 * (2 * fr + 1)))) (0, M) = some r ∧ ((∃ B, r = .inr (true, B) ∧ FGa M B ∧ Df ea ga eb gb) ∨ (∃ s B, r = .inl (s, B) ∧ FGa M B ∧ ∀ N, N < 19683 → sb M 0 (19683 * (2 * fr + 1) + N) → ∀ v P, nw nb gb eb v = N → Pw nb gb eb (fun _ => True) v P → ∀ x, x < 8 → Mt ea eb nb fr x → ∃ q, x.testBit q = true ∧ Rp P q)) := by
  have hna := hAa.1
  refine lp_for 19683 (fun k st => st.1 = nI k ∧ FGa M st.2 ∧ st.2.2 = M.2 ∧ ∀ N, N < k → sb M 0 (19683 * (2 * fr + 1) + N) → ∀ v P, nw nb gb eb v = N → Pw nb gb eb (fun _ => True) v P → ∀ x, x < 8 → Mt ea eb nb fr x → ∃ q, x.testBit q = true ∧ Rp P q) _ (fun k st hk h => ?_) (fun st h => ?_) (k := 0) ⟨rfl, FGa.rfl, rfl, fun N hN => by omega⟩ (by omega) (by omega)
  · obtain ⟨i0, A⟩ := st
    obtain ⟨rfl, h2, h3, h4⟩ := h
    have h2 : FGa M A := h2
    have h3 : A.2 = M.2 := h3
    have hx : 19683 * (2 * fr + 1) + k < 157504 := by omega
    obtain ⟨f, f1, f2⟩ := bit_eq hx A
    have hsb : sb A 0 (19683 * (2 * fr + 1) + k) ↔ sb M 0 (19683 * (2 * fr + 1) + k) := by unfold sb; rw [h3]
    unfold b_M_differs_48
    dsimp only
    rw [if_lt (x := 19683) (B := 19683) hk (by omega) rfl, nI_add, f1, bd_some]
    cases f with
    | false =>
      rw [if_pos (show bI false = 0 from rfl)]
      refine Or.inl ⟨_, rfl, nI_inc k, h2, h3, fun N hN hs => ?_⟩
      by_cases e : N = k
      · subst e
        have := f2.mpr (hsb.mpr hs)
        cases this
      · exact h4 N (by omega) hs
    | true =>
      rw [if_neg (show ¬ bI true = 0 by decide)]
      obtain ⟨-, -, v0, v1, v2, v3, v4⟩ := hSd _ hx (hsb.mp (f2.mp rfl))
      obtain ⟨c1, c2, c3, c4⟩ := code_at (r := fr) (f := 1) (by omega) hk
      rw [c2] at v2
      rw [c1, c3] at v3
      rw [c1, c3, c4] at v4
      have v4 := v4 rfl
      obtain ⟨P0, hP0⟩ := Pw_ex hAb v0
      obtain ⟨t, B, t1, t2, t3⟩ := taken_eq hnb hAb hP0 A
      rw [v2] at t1
      have hRA : RP A b nb gb eb := h2.RP hRb
      have e22 : A.1 (1, 22) = M.1 (1, 22) := h2.1 _ (cells_ne (by omega)) (cells_ne (by omega))
      have hFB : FGa M B := h2.trans ⟨fun z h _ => t3.1 z h, by rw [t3.2]⟩
      obtain ⟨w, w1, w2⟩ := misses_eq (M.1 (1, 22) fr) t
      rw [ck_of (in22 (show fr < 4 by omega)), ck_of (sz_in hb), nI_clamp (show b < 2 ^ 31 by omega), nI_clamp (show fr < 2 ^ 31 by omega), hRA.1, t1, bd_some, e22]
      dsimp only
      rw [w1, bd_some]
      cases w with
      | true =>
        rw [if_neg (show ¬ bI true = 0 by decide)]
        refine Or.inr ⟨_, rfl, Or.inl ⟨B, rfl, hFB, ?_⟩⟩
        obtain ⟨x, x1, x2, x3⟩ := w2.mp rfl
        obtain ⟨u, u1, u2⟩ := (hMt fr (by omega) x (by omega)).mp x2
        refine ⟨fr, u, v0, u1, v4, fun ht => (set_tst t2 x1).mp x3 ?_⟩
        have := (Tk_set hAb hnb hP0).mp ht
        rw [u2] at this
        exact this
      | false =>
        rw [if_pos (show bI false = 0 from rfl)]
        refine Or.inl ⟨_, rfl, nI_inc k, hFB, by rw [t3.2, h3], fun N hN hs => ?_⟩
        by_cases e : N = k
        · subst e
          intro v P hv hP x hx hm
          obtain ⟨t', B', t1', t2', -⟩ := taken_eq hnb hAb hP A
          rw [hv, t1] at t1'
          have et : t = t' := congrArg Prod.fst (Option.some.inj t1')
          rw [← et] at t2'
          apply Classical.byContradiction
          intro hn
          have := w2.mpr ⟨x, hx, (hMt fr (by omega) x (by omega)).mpr hm, (set_tst t2' hx).mpr hn⟩
          cases this
        · exact h4 N (by omega) hs
  · obtain ⟨i0, A⟩ := st
    obtain ⟨rfl, h2, h3, h4⟩ := h
    refine ⟨.inl (nI 19683, A), ?_, Or.inr ⟨_, A, rfl, h2, h4⟩⟩
    unfold b_M_differs_48
    dsimp only
    rw [if_ge (x := 19683) (B := 19683) (Nat.le_refl _) (by omega) rfl]
def FH (M M' : Mm) : Prop := (∀ z, z ≠ (1, 20) → z ≠ (1, 21) → z ≠ (1, 22) → M'.1 z = M.1 z) ∧ M'.2 (2, 3) = M.2 (2, 3)
theorem MtOK_FGa {M M' : Mm} {ea eb : Ed} {nb : Nat} (h : MtOK ea eb nb M 22) (hF : FGa M M') : MtOK ea eb nb M' 22 := by
  have e : M'.1 (1, 22) = M.1 (1, 22) := hF.1 _ (cells_ne (by omega)) (cells_ne (by omega))
  unfold MtOK bM
  rw [e]
  exact h
theorem differs_eq {M : Mm} (ha : a < 6) (hb : b < 6) (hAa : AOK na ga ea) (hAb : AOK nb gb eb) (hnb : nb ≤ 3) (hRa : RP M a na ga ea) (hRb : RP M b nb gb eb) : ∃ f M', m_M_differs (nI a) (nI b) M = some (f, M') ∧ FH M M' ∧ (f = true ↔ Df ea ga eb gb) := by
  have hna := hAa.1
  obtain ⟨A, a1, a2, a3⟩ := begin_eq ha hb hAa hAb hnb hRa hRb
  have hFA : FH M A := ⟨fun z _ _ h => a3.1 z h, by rw [a3.2]⟩
  have hRa1 : RP A a na ga ea := RP_frm hRa a3 (cells_ne (by omega)) (cells_ne (by omega)) (cells_ne (by omega))
  have hRb1 : RP A b nb gb eb := RP_frm hRb a3 (cells_ne (by omega)) (cells_ne (by omega)) (cells_ne (by omega))
  have hlp : ∃ r, lp (b_M_differs_8 (nI a) (nI b)) (0, A) = some r ∧ ((∃ B, r = .inr (true, B) ∧ FGa A B ∧ Df ea ga eb gb) ∨ (∃ s B, r = .inl (s, B) ∧ FGa A B ∧ ∀ q, q < na → ∀ u v, pth ea u 0 q → gth ea ga v q q → Tk eb gb u v)) := by
    refine lp_for na (fun k st => st.1 = nI k ∧ FGa A st.2 ∧ ∀ q, q < k → ∀ u v, pth ea u 0 q → gth ea ga v q q → Tk eb gb u v) _ (fun k st hk h => ?_) (fun st h => ?_) (k := 0) ⟨rfl, FGa.rfl, fun q hq => by omega⟩ (by omega) (by omega)
    · obtain ⟨i0, B⟩ := st
      obtain ⟨rfl, h2, h3⟩ := h
      have h2 : FGa A B := h2
      have hk4 : k < 4 := by omega
      have hRB : RP B a na ga ea := h2.RP hRa1
      have hMB := MtOK_FGa a2 h2
      have x8 : ∀ u, pth ea u 0 k → fw eb u (x0 nb) < 8 ∧ Mt ea eb nb k (fw eb u (x0 nb)) := fun u hu => by
        have hm : Mt ea eb nb k (fw eb u (x0 nb)) := ⟨u, hu, rfl⟩
        exact ⟨Mt_min (fun _ x => x < 8) (x0_lt nb) (fun _ _ _ _ _ _ => fl_lt _ _ _) hm, hm⟩
      unfold b_M_differs_8
      dsimp only
      rw [ck_of (sz_in ha), nI_clamp (show a < 2 ^ 31 by omega), if_lt hk (by omega) hRB.1, ck_of (in22 hk4), nI_clamp (show k < 2 ^ 31 by omega)]
      by_cases hz : B.1 (1, 22) k = 0
      · rw [if_pos hz]
        refine Or.inl ⟨_, rfl, nI_inc k, h2, fun q hq u v hu hv => ?_⟩
        by_cases e : q = k
        · subst e
          obtain ⟨y1, y2⟩ := x8 u hu
          have := (hMB q hk4 _ (by omega)).mpr y2
          unfold bM at this
          rw [hz, b_0] at this
          cases this
        · exact h3 q (by omega) u v hu hv
      · rw [if_neg hz]
        obtain ⟨C, c1, c2, c3, c4, c5⟩ := gather_eq ha hb hAa hAb hnb hRB (h2.RP hRb1) hk
        obtain ⟨r, r1, r2⟩ := diff_in ha hb hAa hAb hnb ((h2.trans c2).RP hRb1) hk (MtOK_FGa hMB c2) c3
        have e1 : (19683 : Int32) * (((2 : Int32) * nI k) + (1 : Int32)) = nI (19683 * (2 * k + 1)) := by
          rw [show (19683 : Int32) = nI 19683 from rfl, show (2 : Int32) = nI 2 from rfl, show (1 : Int32) = nI 1 from rfl, pk_mul, nI_add, pk_mul]
        rw [c1, bd_some, bd_some, e1, r1, bd_some]
        rcases r2 with ⟨E, rfl, g1, g2⟩ | ⟨s, E, rfl, g1, g2⟩
        · exact Or.inr ⟨_, rfl, Or.inl ⟨E, rfl, (h2.trans c2).trans g1, g2⟩⟩
        · refine Or.inl ⟨(nI k + 1, E), rfl, nI_inc k, (h2.trans c2).trans g1, fun q hq u v hu hv => ?_⟩
          by_cases e : q = k
          · subst e
            obtain ⟨y1, y2⟩ := x8 u hu
            have hlv : lets v := pth_lets hAa v (gth_pth _ _ _ hv)
            obtain ⟨P, hP⟩ := Pw_ex hAb v
            have hin := (Sd_all hAa hAb hnb (fr := q) (fun x => x < 157504 ∧ sb C 0 x) ⟨by have := nw_lt nb gb eb []; omega, c4⟩ (fun x hx y hy => ⟨by have := sx_lt hAa hy; omega, c5 x hx.1 hx.2 y hy⟩) v q hlv).2 hv
            obtain ⟨w, w1, w2⟩ := g2 _ (nw_lt nb gb eb v) hin.2 v P rfl hP _ y1 y2
            exact (Tk_set hAb hnb hP).mpr ⟨w, w1, w2⟩
          · exact h3 q (by omega) u v hu hv
    · obtain ⟨i0, B⟩ := st
      obtain ⟨rfl, h2, h3⟩ := h
      have h2 : FGa A B := h2
      have hRB : RP B a na ga ea := h2.RP hRa1
      refine ⟨.inl (nI na, B), ?_, Or.inr ⟨_, B, rfl, h2, h3⟩⟩
      unfold b_M_differs_8
      dsimp only
      rw [ck_of (sz_in ha), nI_clamp (show a < 2 ^ 31 by omega), if_ge (Nat.le_refl _) (by omega) hRB.1]
  obtain ⟨r, r1, r2⟩ := hlp
  have hFF : ∀ B, FGa A B → FH M B := fun B h => ⟨fun z h1 h2 h3 => (h.1 z h1 h2).trans (hFA.1 z h1 h2 h3), h.2.trans hFA.2⟩
  unfold m_M_differs
  rw [a1, bd_some, r1, bd_some]
  rcases r2 with ⟨E, rfl, g1, g2⟩ | ⟨s, E, rfl, g1, g2⟩
  · exact ⟨true, E, rfl, hFF E g1, fun _ => g2, fun _ => rfl⟩
  · refine ⟨false, E, rfl, hFF E g1, fun h => (by cases h), fun ⟨s, u, v, h1, h2, h3⟩ => ?_⟩
    have hs : s < na := by
      have hlt : ∀ (w : List Nat) {p q : Nat}, gth ea ga w p q → p < na := fun w => by
        cases w with
        | nil => intro p q h; exact h.elim
        | cons l w => rintro p q ⟨m, h, -⟩; exact (hAa.2.2 _ _ _ h).2.1
      exact hlt v h2
    exact absurd (g2 s hs u v h1 h2) h3
end DIFF
