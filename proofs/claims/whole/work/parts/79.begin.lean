/-! the reference's search for meetings -/
theorem in22 {k : Nat} (hk : k < 4) : inb (nI k) (lenI 22) = true := vp_inb (vp_in_nI (N := 4) hk (by omega))
section BEGI
variable {na nb : Nat} {ga gb : Nat → Bool} {ea eb : Ed} {a b : Nat}
theorem next_num {M : Mm} (hb : b < 6) (hA : AOK nb gb eb) (hn : nb ≤ 3) (hR : RP M b nb gb eb) {x l : Nat} (hx : x < 8) (hl : l < 2) : ∃ r, lp (b_M_goOn_18 (nI b) (nI x) (nI l) M) (0, 0) = some r ∧ r.1 = nI (fl8 eb l x) := by
  have h : ∃ r, lp (b_M_goOn_18 (nI b) (nI x) (nI l) M) (0, 0) = some r ∧ ∀ q, q < 32 → (bt r.1 q = true ↔ ∃ s, s < nb ∧ x.testBit s = true ∧ eb l s q = true) := by
    refine lp_for nb (fun k s => s.2 = nI k ∧ ∀ q, q < 32 → (bt s.1 q = true ↔ ∃ s, s < k ∧ x.testBit s = true ∧ eb l s q = true)) _ (fun k s hk h => ?_) (fun s h => ?_) (k := 0) ⟨rfl, fun q hq => ?_⟩ (by omega) (by omega)
    · obtain ⟨c, i0⟩ := s
      obtain ⟨rfl, h2⟩ := h
      have h2 : ∀ q, q < 32 → (bt c q = true ↔ ∃ s, s < k ∧ x.testBit s = true ∧ eb l s q = true) := h2
      unfold b_M_goOn_18
      dsimp only
      rw [ck_of (sz_in hb), nI_clamp (by omega), if_lt hk (by omega) hR.1]
      cases hq : x.testBit k
      · rw [if_neg (by rw [b_tst1 _ (by omega), bt_nI (by omega), hq]; simp)]
        refine Or.inl ⟨(c, nI k + 1), rfl, nI_inc k, fun q hq2 => ?_⟩
        show bt c q = true ↔ _
        rw [h2 q hq2]
        constructor
        · rintro ⟨s, a1, a2, a3⟩
          exact ⟨s, by omega, a2, a3⟩
        · rintro ⟨s, a1, a2, a3⟩
          by_cases e : s = k
          · subst e; rw [hq] at a2; cases a2
          · exact ⟨s, by omega, a2, a3⟩
      · rw [if_pos (by rw [b_tst1 _ (by omega), bt_nI (by omega), hq]), to_ix, ck_of (to_in hb hl (by omega)), nI_clamp (by omega), bd_some]
        refine Or.inl ⟨(c ||| M.1 (1, 16) (8 * b + 4 * l + k), nI k + 1), rfl, nI_inc k, fun q hq2 => ?_⟩
        show bt (c ||| M.1 (1, 16) (8 * b + 4 * l + k)) q = true ↔ _
        rw [b_or, Bool.or_eq_true, h2 q hq2, hR.2.2 l hl k hk q hq2]
        constructor
        · rintro (⟨s, a1, a2, a3⟩ | a3)
          · exact ⟨s, by omega, a2, a3⟩
          · exact ⟨k, by omega, hq, a3⟩
        · rintro ⟨s, a1, a2, a3⟩
          by_cases e : s = k
          · subst e; exact Or.inr a3
          · exact Or.inl ⟨s, by omega, a2, a3⟩
    · obtain ⟨c, i0⟩ := s
      obtain ⟨rfl, h2⟩ := h
      refine ⟨(c, nI nb), ?_, h2⟩
      unfold b_M_goOn_18
      dsimp only
      rw [ck_of (sz_in hb), nI_clamp (by omega), if_ge (Nat.le_refl _) (by omega) hR.1]
    · show bt 0 q = true ↔ _
      rw [b_0]
      constructor
      · intro h; cases h
      · rintro ⟨s, h, -⟩; omega
  obtain ⟨r, h1, h2⟩ := h
  refine ⟨r, h1, b_ext fun q hq => ?_⟩
  have h8 := fl_lt eb l x
  rw [Bool.eq_iff_iff, h2 q hq, bt_nI (by omega), fl_bit (ok3 hA hn)]
  constructor
  · rintro ⟨s, -, a2, a3⟩
    exact ⟨s, a2, a3⟩
  · rintro ⟨s, a2, a3⟩
    exact ⟨s, (hA.2.2 _ _ _ a3).2.1, a2, a3⟩
theorem goOn_in {M0 M : Mm} {f : Int32} {l s x : Nat} {C : Prop} (ha : a < 6) (hAa : AOK na ga ea) (hRa : RP M0 a na ga ea) (hs : s < na) (hl : l < 2) (hm : Mt ea eb nb s x) (hG : Gr 22 M0 f M C) (hS : MS ea eb nb M 22) : ∃ r, lp (b_M_goOn_76 (nI a) (nI s) (nI l) (nI (fl8 eb l x))) (f, 0, M) = some r ∧ (MS ea eb nb r.2.2 22 ∧ Gr 22 M0 r.1 r.2.2 (C ∧ ∀ t, ea l s t = true → bM M0 22 t (fl8 eb l x))) := by
  have hna := hAa.1
  have hy := fl_lt eb l x
  generalize hyy : fl8 eb l x = y at hy
  refine lp_for na (fun k st => st.2.1 = nI k ∧ MS ea eb nb st.2.2 22 ∧ Gr 22 M0 st.1 st.2.2 (C ∧ ∀ t, t < k → ea l s t = true → bM M0 22 t y)) _ (fun k st hk h => ?_) (fun st h => ?_) (k := 0) ⟨rfl, hS, hG.imp fun _ h => ⟨h, fun t ht => by omega⟩⟩ (by omega) (by omega)
  · obtain ⟨f1, i0, A⟩ := st
    obtain ⟨rfl, h2, h3⟩ := h
    have h2 : MS ea eb nb A 22 := h2
    have h3 : Gr 22 M0 f1 A (C ∧ ∀ t, t < k → ea l s t = true → bM M0 22 t y) := h3
    have hR : RP A a na ga ea := RP_frm hRa h3.1 (cells_ne (by omega)) (cells_ne (by omega)) (cells_ne (by omega))
    have nx : (¬ ea l s k = true ∨ (A = M0 → bM M0 22 k y)) → Gr 22 M0 f1 A (C ∧ ∀ t, t < k + 1 → ea l s t = true → bM M0 22 t y) := fun hor => h3.imp fun hAM hc => ⟨hc.1, fun t ht he => by
      by_cases e : t = k
      · subst e
        rcases hor with h | h
        · exact absurd he h
        · exact h hAM
      · exact hc.2 t (by omega) he⟩
    unfold b_M_goOn_76
    dsimp only
    rw [ck_of (sz_in ha), nI_clamp (show a < 2 ^ 31 by omega), if_lt hk (by omega) hR.1, to_ix, ck_of (to_in ha hl (by omega)), nI_clamp (show 8 * a + 4 * l + s < 2 ^ 31 by omega)]
    have hbe := hR.2.2 l hl s hs k (by omega)
    cases hb : ea l s k
    · rw [if_neg (by rw [b_tst1 _ (by omega), hbe, hb]; simp)]
      exact Or.inl ⟨(f1, nI k + 1, A), rfl, nI_inc k, h2, nx (Or.inl fun h => by rw [hb] at h; cases h)⟩
    · rw [if_pos (by rw [b_tst1 _ (by omega), hbe, hb]), ck_of (in22 (show k < 4 by omega)), nI_clamp (show k < 2 ^ 31 by omega)]
      cases hq : bt (A.1 (1, 22) k) y
      · rw [if_pos ((b_tst _ (by omega)).mpr hq), ck_of (in22 (show k < 4 by omega)), ck_of (in22 (show k < 4 by omega)), bd_some]
        obtain ⟨g1, g2⟩ := Gr_put (C := False) (show k < 4 by omega) hy h2 (by rw [← hyy]; exact Mt_s hm hb) (show ¬ bM A 22 k y by unfold bM; rw [hq]; simp)
        exact Or.inl ⟨_, rfl, nI_inc k, g2, h3.trans g1 (by rw [if_neg (by decide)]) fun _ _ h => h.elim⟩
      · rw [if_neg (by rw [b_tst _ (by omega), hq]; simp)]
        exact Or.inl ⟨(f1, nI k + 1, A), rfl, nI_inc k, h2, nx (Or.inr fun hAM => by rw [← hAM]; exact hq)⟩
  · obtain ⟨f1, i0, A⟩ := st
    obtain ⟨rfl, h2, h3⟩ := h
    have h3 : Gr 22 M0 f1 A (C ∧ ∀ t, t < na → ea l s t = true → bM M0 22 t y) := h3
    have hR : RP A a na ga ea := RP_frm hRa h3.1 (cells_ne (by omega)) (cells_ne (by omega)) (cells_ne (by omega))
    refine ⟨(f1, nI na, A), ?_, h2, h3.imp fun _ hc => ⟨hc.1, fun t he => hc.2 t (hAa.2.2 _ _ _ he).2.2 he⟩⟩
    unfold b_M_goOn_76
    dsimp only
    rw [ck_of (sz_in ha), nI_clamp (show a < 2 ^ 31 by omega), if_ge (Nat.le_refl _) (by omega) hR.1]
theorem goOn_eq {M : Mm} {s x : Nat} (ha : a < 6) (hb : b < 6) (hAa : AOK na ga ea) (hAb : AOK nb gb eb) (hnb : nb ≤ 3) (hRa : RP M a na ga ea) (hRb : RP M b nb gb eb) (hs : s < na) (hx : x < 8) (hm : Mt ea eb nb s x) (hS : MS ea eb nb M 22) : ∃ f M', m_M_goOn (nI a) (nI b) (nI s) (nI x) M = some (f, M') ∧ MS ea eb nb M' 22 ∧ Gr 22 M (bI f) M' (NX ea eb M 22 s x) := by
  have h : ∃ r, lp (b_M_goOn_6 (nI a) (nI b) (nI s) (nI x)) (0, 0, M) = some r ∧ (MS ea eb nb r.2.2 22 ∧ Gr 22 M r.1 r.2.2 (∀ l, l < 2 → ∀ t, ea l s t = true → bM M 22 t (fl8 eb l x))) := by
    refine lp_for 2 (fun k st => st.2.1 = nI k ∧ MS ea eb nb st.2.2 22 ∧ Gr 22 M st.1 st.2.2 (∀ l, l < k → ∀ t, ea l s t = true → bM M 22 t (fl8 eb l x))) _ (fun k st hk h => ?_) (fun st h => ?_) (k := 0) ⟨rfl, hS, Gr.rfl fun l hl => by omega⟩ (by omega) (by omega)
    · obtain ⟨f1, i0, A⟩ := st
      obtain ⟨rfl, h2, h3⟩ := h
      have h3 : Gr 22 M f1 A (∀ l, l < k → ∀ t, ea l s t = true → bM M 22 t (fl8 eb l x)) := h3
      have hRB : RP A b nb gb eb := RP_frm hRb h3.1 (cells_ne (by omega)) (cells_ne (by omega)) (cells_ne (by omega))
      obtain ⟨v, v1, v2⟩ := next_num hb hAb hnb hRB hx hk
      obtain ⟨r, r1, r2, r3⟩ := goOn_in (eb := eb) (nb := nb) (x := x) ha hAa hRa hs hk hm h3 h2
      refine Or.inl ⟨(r.1, nI (k + 1), r.2.2), ?_, rfl, r2, r3.imp fun _ hc l hl t he => ?_⟩
      · unfold b_M_goOn_6
        dsimp only
        rw [if_lt (x := 2) (B := 2) hk (by omega) rfl, v1, bd_some, v2, r1, bd_some, nI_inc]
      · by_cases e : l = k
        · subst e; exact hc.2 t he
        · exact hc.1 l (by omega) t he
    · obtain ⟨f1, i0, A⟩ := st
      obtain ⟨rfl, h2, h3⟩ := h
      refine ⟨(f1, nI 2, A), ?_, h2, h3⟩
      unfold b_M_goOn_6
      dsimp only
      rw [if_ge (x := 2) (B := 2) (Nat.le_refl 2) (by omega) rfl]
  obtain ⟨r, h1, h2, h3⟩ := h
  have h4 := h3.imp (C' := NX ea eb M 22 s x) fun _ hc l t he => hc l (hAa.2.2 _ _ _ he).1 t he
  unfold m_M_goOn
  rw [h1, bd_some]
  rcases h3.bit with e | e
  · exact ⟨false, r.2.2, by rw [e]; rfl, h2, by rw [e] at h4; exact h4⟩
  · exact ⟨true, r.2.2, by rw [e]; rfl, h2, by rw [e] at h4; exact h4⟩
theorem begin_in {M0 M : Mm} {f : Int32} {s : Nat} {C : Prop} (ha : a < 6) (hb : b < 6) (hAa : AOK na ga ea) (hAb : AOK nb gb eb) (hnb : nb ≤ 3) (hRa : RP M0 a na ga ea) (hRb : RP M0 b nb gb eb) (hs : s < na) (hG : Gr 22 M0 f M C) (hS : MS ea eb nb M 22) : ∃ r, lp (b_M_begin_67 (nI a) (nI b) (nI s)) (f, 0, M) = some r ∧ (MS ea eb nb r.2.2 22 ∧ Gr 22 M0 r.1 r.2.2 (C ∧ ∀ x, x < 8 → bM M0 22 s x → NX ea eb M0 22 s x)) := by
  have hna := hAa.1
  have hs4 : s < 4 := by omega
  refine lp_for 8 (fun k st => st.2.1 = nI k ∧ MS ea eb nb st.2.2 22 ∧ Gr 22 M0 st.1 st.2.2 (C ∧ ∀ x, x < k → bM M0 22 s x → NX ea eb M0 22 s x)) _ (fun k st hk h => ?_) (fun st h => ?_) (k := 0) ⟨rfl, hS, hG.imp fun _ h => ⟨h, fun t ht => by omega⟩⟩ (by omega) (by omega)
  · obtain ⟨f1, i0, A⟩ := st
    obtain ⟨rfl, h2, h3⟩ := h
    have h2 : MS ea eb nb A 22 := h2
    have h3 : Gr 22 M0 f1 A (C ∧ ∀ x, x < k → bM M0 22 s x → NX ea eb M0 22 s x) := h3
    have cA : RP A a na ga ea := RP_frm hRa h3.1 (cells_ne (by omega)) (cells_ne (by omega)) (cells_ne (by omega))
    have cB : RP A b nb gb eb := RP_frm hRb h3.1 (cells_ne (by omega)) (cells_ne (by omega)) (cells_ne (by omega))
    unfold b_M_begin_67
    dsimp only
    rw [if_lt (x := 8) (B := 8) hk (by omega) rfl, ck_of (in22 hs4), nI_clamp (by omega)]
    cases hq : bt (A.1 (1, 22) s) k
    · rw [if_neg (by rw [b_tst1 _ (by omega), hq]; simp)]
      refine Or.inl ⟨(f1, nI k + 1, A), rfl, nI_inc k, h2, h3.imp fun hAM hc => ⟨hc.1, fun x hx hb => ?_⟩⟩
      by_cases e : x = k
      · subst e
        rw [← hAM] at hb
        have hb : bt (A.1 (1, 22) s) x = true := hb
        rw [hq] at hb; cases hb
      · exact hc.2 x (by omega) hb
    · rw [if_pos (by rw [b_tst1 _ (by omega), hq])]
      obtain ⟨c, B, b1, b2, b3⟩ := goOn_eq ha hb hAa hAb hnb cA cB hs hk (h2 s hs4 k (by omega) hq).2 h2
      rw [b1, bd_some]
      dsimp only
      have tl : ∀ f', f' = (if bI c = 0 then f1 else 1) → Gr 22 M0 f' B (C ∧ ∀ x, x < k + 1 → bM M0 22 s x → NX ea eb M0 22 s x) := fun f' hf => h3.trans b3 hf fun hAM hc hn => ⟨hc.1, fun x hx hb => by
        by_cases e : x = k
        · subst e; rw [← hAM]; exact hn
        · exact hc.2 x (by omega) hb⟩
      by_cases hz : bI c = 0
      · rw [if_pos hz]
        exact Or.inl ⟨(f1, nI k + 1, B), rfl, nI_inc k, b2, tl f1 (by rw [if_pos hz])⟩
      · rw [if_neg hz]
        exact Or.inl ⟨(1, nI k + 1, B), rfl, nI_inc k, b2, tl 1 (by rw [if_neg hz])⟩
  · obtain ⟨f1, i0, A⟩ := st
    obtain ⟨rfl, h2, h3⟩ := h
    refine ⟨(f1, nI 8, A), ?_, h2, h3⟩
    unfold b_M_begin_67
    dsimp only
    rw [if_ge (x := 8) (B := 8) (Nat.le_refl 8) (by omega) rfl]
theorem begin_round {M : Mm} (ha : a < 6) (hb : b < 6) (hAa : AOK na ga ea) (hAb : AOK nb gb eb) (hnb : nb ≤ 3) (hRa : RP M a na ga ea) (hRb : RP M b nb gb eb) (hS : MS ea eb nb M 22) : ∃ r, lp (b_M_begin_53 (nI a) (nI b)) (0, 0, M) = some r ∧ (MS ea eb nb r.2.2 22 ∧ Gr 22 M r.1 r.2.2 (∀ s, s < na → ∀ x, x < 8 → bM M 22 s x → NX ea eb M 22 s x)) := by
  have hna := hAa.1
  refine lp_for na (fun k st => st.2.1 = nI k ∧ MS ea eb nb st.2.2 22 ∧ Gr 22 M st.1 st.2.2 (∀ s, s < k → ∀ x, x < 8 → bM M 22 s x → NX ea eb M 22 s x)) _ (fun k st hk h => ?_) (fun st h => ?_) (k := 0) ⟨rfl, hS, Gr.rfl fun l hl => by omega⟩ (by omega) (by omega)
  · obtain ⟨f1, i0, A⟩ := st
    obtain ⟨rfl, h2, h3⟩ := h
    have h3 : Gr 22 M f1 A (∀ s, s < k → ∀ x, x < 8 → bM M 22 s x → NX ea eb M 22 s x) := h3
    have hR : RP A a na ga ea := RP_frm hRa h3.1 (cells_ne (by omega)) (cells_ne (by omega)) (cells_ne (by omega))
    obtain ⟨r, r1, r2, r3⟩ := begin_in ha hb hAa hAb hnb hRa hRb hk h3 h2
    refine Or.inl ⟨(r.1, nI (k + 1), r.2.2), ?_, rfl, r2, r3.imp fun _ hc s hs => ?_⟩
    · unfold b_M_begin_53
      dsimp only
      rw [ck_of (sz_in ha), nI_clamp (show a < 2 ^ 31 by omega), if_lt hk (by omega) hR.1, r1, bd_some, nI_inc]
    · by_cases e : s = k
      · subst e; exact hc.2
      · exact hc.1 s (by omega)
  · obtain ⟨f1, i0, A⟩ := st
    obtain ⟨rfl, h2, h3⟩ := h
    have h3 : Gr 22 M f1 A (∀ s, s < na → ∀ x, x < 8 → bM M 22 s x → NX ea eb M 22 s x) := h3
    have hR : RP A a na ga ea := RP_frm hRa h3.1 (cells_ne (by omega)) (cells_ne (by omega)) (cells_ne (by omega))
    refine ⟨(f1, nI na, A), ?_, h2, h3⟩
    unfold b_M_begin_53
    dsimp only
    rw [ck_of (sz_in ha), nI_clamp (show a < 2 ^ 31 by omega), if_ge (Nat.le_refl _) (by omega) hR.1]
theorem begin_eq {M : Mm} (ha : a < 6) (hb : b < 6) (hAa : AOK na ga ea) (hAb : AOK nb gb eb) (hnb : nb ≤ 3) (hRa : RP M a na ga ea) (hRb : RP M b nb gb eb) : ∃ M', m_M_begin (nI a) (nI b) M = some M' ∧ MtOK ea eb nb M' 22 ∧ Frm (fun z => z = (1, 22)) M M' := by
  have hx8 := x0_lt nb
  have hz : ∃ r, lp b_M_begin_2 (0, M) = some r ∧ ((∀ k, k < 4 → r.2.1 (1, 22) k = 0) ∧ Frm (fun z => z = (1, 22)) M r.2) := by
    refine lp_for 4 (fun k s => s.1 = nI k ∧ (∀ i, i < k → s.2.1 (1, 22) i = 0) ∧ Frm (fun z => z = (1, 22)) M s.2) _ (fun k s hk h => ?_) (fun s h => ?_) (k := 0) ⟨rfl, fun i hi => by omega, Frm.rfl⟩ (by omega) (by omega)
    · obtain ⟨i0, A⟩ := s
      obtain ⟨rfl, h2, h3⟩ := h
      refine Or.inl ⟨(nI (k + 1), uI A (1, 22) k 0), ?_, rfl, fun i hi => ?_, h3.trans (Frm.uI A k 0 rfl)⟩
      · unfold b_M_begin_2
        dsimp only
        rw [if_lt (x := 4) (B := 4) hk (by omega) rfl, ck_of (in22 hk), nI_clamp (by omega), bd_some, nI_inc]
      · by_cases e : i = k
        · subst e; exact uI_at A _ _ _
        · show (uI A (1, 22) k 0).1 (1, 22) i = 0
          rw [uI_off A _ _ e]
          exact h2 i (by omega)
    · obtain ⟨i0, A⟩ := s
      obtain ⟨rfl, h2, h3⟩ := h
      refine ⟨(nI 4, A), ?_, h2, h3⟩
      unfold b_M_begin_2
      dsimp only
      rw [if_ge (x := 4) (B := 4) (Nat.le_refl _) (by omega) rfl]
  obtain ⟨r0, z1, z2, z3⟩ := hz
  generalize hM0 : r0.2 = M0 at z2 z3
  let M1 := uI M0 (1, 22) 0 ((1 : Int32) <<< (nI (x0 nb) &&& 31))
  have hM1 : ∀ s, s < 4 → ∀ x, bM M1 22 s x → s = 0 ∧ x = x0 nb := fun s hs x h => by
    have h : bt (M1.1 (1, 22) s) x = true := h
    by_cases e : s = 0
    · subst e
      rw [show M1.1 (1, 22) 0 = _ from uI_at _ _ _ _, b_bit (by omega), decide_eq_true_eq] at h
      exact ⟨rfl, h⟩
    · rw [show M1.1 (1, 22) s = _ from uI_off _ _ _ e, z2 s hs, b_0] at h
      cases h
  have hS1 : MS ea eb nb M1 22 := fun s hs x hx h => by
    obtain ⟨rfl, rfl⟩ := hM1 s hs x h
    exact ⟨hx8, Mt_0 ea eb nb⟩
  have hF1 : Frm (fun z => z = (1, 22)) M M1 := z3.trans (Frm.uI M0 0 _ rfl)
  have h01 : bM M1 22 0 (x0 nb) := by
    show bt (M1.1 (1, 22) 0) (x0 nb) = true
    rw [show M1.1 (1, 22) 0 = _ from uI_at _ _ _ _, b_bit (by omega)]
    simp
  have hlp : ∃ r, lp (b_M_begin_44 (nI a) (nI b)) (1, M1) = some r ∧ (MtOK ea eb nb r.2 22 ∧ Frm (fun z => z = (1, 22)) M r.2) := by
    refine lp_run (fun st => MS ea eb nb st.2 22 ∧ Frm (fun z => z = (1, 22)) M st.2 ∧ bM st.2 22 0 (x0 nb) ∧ (st.1 = 1 ∨ (st.1 = 0 ∧ ∀ s, s < na → ∀ x, x < 8 → bM st.2 22 s x → NX ea eb st.2 22 s x))) (fun st => (33 - cM st.2 22) + (if st.1 = 0 then 0 else 1)) _ (fun st h => ?_) ⟨hS1, hF1, h01, Or.inl rfl⟩ (by show 33 - cM M1 22 + _ < 1000000; split <;> omega)
    obtain ⟨f1, A⟩ := st
    obtain ⟨h2, h3, h4, h5⟩ := h
    have h2 : MS ea eb nb A 22 := h2
    have h3 : Frm (fun z => z = (1, 22)) M A := h3
    have cA : RP A a na ga ea := RP_frm hRa h3 (cells_ne (by omega)) (cells_ne (by omega)) (cells_ne (by omega))
    have cB : RP A b nb gb eb := RP_frm hRb h3 (cells_ne (by omega)) (cells_ne (by omega)) (cells_ne (by omega))
    unfold b_M_begin_44
    dsimp only
    rcases h5 with e1 | ⟨e0, h5⟩
    · have e1 : f1 = 1 := e1
      subst e1
      rw [if_neg (show ¬ (1 : Int32) = 0 by decide)]
      obtain ⟨r, r1, r2, r3⟩ := begin_round ha hb hAa hAb hnb cA cB h2
      rw [r1, bd_some]
      refine Or.inl ⟨(r.1, r.2.2), rfl, ⟨r2, h3.trans r3.1, r3.2.1 _ _ h4, ?_⟩, ?_⟩
      · rcases r3.2.2 with ⟨a1, a2, a3⟩ | ⟨a1, a2⟩
        · exact Or.inr ⟨a1, by show ∀ s, s < na → ∀ x, x < 8 → bM r.2.2 22 s x → NX ea eb r.2.2 22 s x; rw [a2]; exact a3⟩
        · exact Or.inl a1
      · have hle := cM_le r.2.2 22
        rcases r3.2.2 with ⟨a1, a2, a3⟩ | ⟨a1, a2⟩
        · show 33 - cM r.2.2 22 + (if r.1 = 0 then 0 else 1) < 33 - cM A 22 + 1
          rw [a1, a2, if_pos rfl]; omega
        · have := cM_lt r3.2.1 a2
          show 33 - cM r.2.2 22 + (if r.1 = 0 then 0 else 1) < 33 - cM A 22 + 1
          rw [a1, if_neg (by decide)]; omega
    · have e0 : f1 = 0 := e0
      subst e0
      rw [if_pos rfl]
      exact Or.inr ⟨(0, A), rfl, MtOK_of hAa h2 h4 h5, h3⟩
  obtain ⟨r, h1, h2, h3⟩ := hlp
  refine ⟨r.2, ?_, h2, h3⟩
  have hsh := shl_x0 nb
  have hnb4 := hAb.1
  have hRb0 : RP M0 b nb gb eb := RP_frm hRb z3 (cells_ne (by omega)) (cells_ne (by omega)) (cells_ne (by omega))
  unfold m_M_begin
  rw [z1, bd_some, hM0, ck_of (sz_in hb), nI_clamp (show b < 2 ^ 31 by omega), hRb0.1]
  by_cases hz : 0 < nb
  · rw [if_pos hz] at hsh
    rw [if_neg (nI_nle hz (by omega)), ck_of (show inb 0 (lenI 22) = true from in22 (k := 0) (by omega)), bd_some, hsh]
    show bd (lp (b_M_begin_44 (nI a) (nI b)) (1, M1)) _ = _
    rw [h1, bd_some]
  · rw [if_neg hz] at hsh
    have hz0 : nb = 0 := by omega
    rw [if_pos (by rw [hz0]; exact Int32.le_refl _), ck_of (show inb 0 (lenI 22) = true from in22 (k := 0) (by omega)), bd_some, hsh]
    show bd (lp (b_M_begin_44 (nI a) (nI b)) (1, M1)) _ = _
    rw [h1, bd_some]
end BEGI
