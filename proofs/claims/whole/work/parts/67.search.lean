/-! the first lasso that one takes and the other does not: the class's search, the reference's look -/
section SRCH
variable {na nb : Nat} {ga gb : Nat → Bool} {ea eb : Ed}
/-- L letters, h of them in the head, number k -/
def Hit (ga : Nat → Bool) (ea : Ed) (gb : Nat → Bool) (eb : Ed) (L h k : Nat) : Prop := Tk ea ga (wl (nI (k / 2 ^ (L - h))) h) (wl (nI (k % 2 ^ (L - h))) (L - h)) ∧ ¬ Tk eb gb (wl (nI (k / 2 ^ (L - h))) h) (wl (nI (k % 2 ^ (L - h))) (L - h))
def Bef (L h k L' h' k' : Nat) : Prop := L' < L ∨ (L' = L ∧ (h' < h ∨ (h' = h ∧ k' < k)))
/-- no hit before (L, h, k) -/
def Cln (ga : Nat → Bool) (ea : Ed) (gb : Nat → Bool) (eb : Ed) (L h k : Nat) : Prop := ∀ L' h' k', h' < L' → k' < 2 ^ L' → Bef L h k L' h' k' → ¬ Hit ga ea gb eb L' h' k'
theorem Cln_k {L h k : Nat} (hc : Cln ga ea gb eb L h k) (hn : ¬ Hit ga ea gb eb L h k) : Cln ga ea gb eb L h (k + 1) := by
  intro L' h' k' h1 h2 h3 h4
  by_cases he : L' = L ∧ h' = h ∧ k' = k
  · obtain ⟨rfl, rfl, rfl⟩ := he; exact hn h4
  · exact hc L' h' k' h1 h2 (by unfold Bef at *; omega) h4
theorem Cln_h {L h : Nat} (hc : Cln ga ea gb eb L h (2 ^ L)) : Cln ga ea gb eb L (h + 1) 0 := by
  intro L' h' k' h1 h2 h3 h4
  refine hc L' h' k' h1 h2 ?_ h4
  unfold Bef at *
  by_cases e : L' = L
  · subst e; omega
  · omega
theorem Cln_L {L : Nat} (hc : Cln ga ea gb eb L L 0) : Cln ga ea gb eb (L + 1) 0 0 := by
  intro L' h' k' h1 h2 h3 h4
  refine hc L' h' k' h1 h2 ?_ h4
  unfold Bef at *
  omega
theorem Cln_0 : Cln ga ea gb eb 1 0 0 := by
  intro L' h' k' h1 h2 h3 h4
  unfold Bef at h3
  omega
/-- what stands found: nothing, or the first hit -/
def Fnd (ga : Nat → Bool) (ea : Ed) (gb : Nat → Bool) (eb : Ed) (f w0 w1 w2 w3 : Int32) : Prop := ∃ L h k, h < L ∧ L ≤ 8 ∧ k < 2 ^ L ∧ Hit ga ea gb eb L h k ∧ Cln ga ea gb eb L h k ∧ f = 1 ∧ w0 = nI h ∧ w1 = nI (k / 2 ^ (L - h)) ∧ w2 = nI (L - h) ∧ w3 = nI (k % 2 ^ (L - h))
theorem Fnd_one {f w0 w1 w2 w3 f' v0 v1 v2 v3 : Int32} (h1 : Fnd ga ea gb eb f w0 w1 w2 w3) (h2 : Fnd ga ea gb eb f' v0 v1 v2 v3) : w0 = v0 ∧ w1 = v1 ∧ w2 = v2 ∧ w3 = v3 := by
  obtain ⟨L, h, k, a1, a2, a3, a4, a5, -, a6, a7, a8, a9⟩ := h1
  obtain ⟨L', h', k', b1, b2, b3, b4, b5, -, b6, b7, b8, b9⟩ := h2
  have c1 : ¬ Bef L h k L' h' k' := fun hb => a5 L' h' k' b1 b3 hb b4
  have c2 : ¬ Bef L' h' k' L h k := fun hb => b5 L h k a1 a3 hb a4
  unfold Bef at c1 c2
  have e1 : L = L' := by omega
  have e2 : h = h' := by omega
  have e3 : k = k' := by omega
  subst e1 e2 e3
  exact ⟨a6.trans b6.symm, a7.trans b7.symm, a8.trans b8.symm, a9.trans b9.symm⟩
theorem Fnd_no {f w0 w1 w2 w3 : Int32} (h1 : Fnd ga ea gb eb f w0 w1 w2 w3) (h2 : Cln ga ea gb eb 9 0 0) : False := by
  obtain ⟨L, h, k, a1, a2, a3, a4, -⟩ := h1
  exact h2 L h k a1 a3 (by unfold Bef; omega) a4
/-! numbers -/
theorem sh_div {k t : Nat} (hk : k < 2 ^ 31) (ht : t < 32) : nI k >>> (nI t &&& 31) = nI (k / 2 ^ t) := pk_shrN hk _ t (s_l t ht)
theorem mask_tn : ∀ t, t < 9 → (((1 : Int32) <<< (nI t &&& 31)) - 1).toBitVec.toNat = 2 ^ t - 1 := by decide +kernel
theorem and_mod {k t : Nat} (hk : k < 2 ^ 31) (ht : t < 9) : nI k &&& (((1 : Int32) <<< (nI t &&& 31)) - 1) = nI (k % 2 ^ t) := pk_andN (by omega) t (mask_tn t ht)
theorem or_place : ∀ h, h < 9 → ∀ x, x < 256 → x < 2 ^ h → ((1 : Int32) <<< (nI h &&& 31)) ||| nI x = nI (2 ^ h + x) := by decide +kernel
theorem div_lt {k L h : Nat} (hh : h ≤ L) (hk : k < 2 ^ L) : k / 2 ^ (L - h) < 2 ^ h := by
  rw [Nat.div_lt_iff_lt_mul (Nat.two_pow_pos _), ← Nat.pow_add]
  rw [show h + (L - h) = L by omega]
  exact hk
theorem mod_lt (k t : Nat) : k % 2 ^ t < 2 ^ t := Nat.mod_lt _ (Nat.two_pow_pos t)
def uF (x : Nat × Nat) : Prop := x = (6, 0)
/-- one split -/
theorem split_eq {M : Mm} {L h : Nat} (hAa : AOK na ga ea) (hAb : AOK nb gb eb) (hTa : TabOK M 0 na ga ea L) (hTb : TabOK M 1 nb gb eb L) (hL : L ≤ 8) (hh : h < L) (hf : M.1 (6, 0) 2 = 0) (hc : Cln ga ea gb eb L h 0) : ∃ M', m_F_searchSplit (nI h) (nI (L - h)) M = some M' ∧ Frm uF M M' ∧ ((M'.1 (6, 0) 2 = 0 ∧ Cln ga ea gb eb L (h + 1) 0) ∨ Fnd ga ea gb eb (M'.1 (6, 0) 2) (M'.1 (6, 0) 3) (M'.1 (6, 0) 4) (M'.1 (6, 0) 5) (M'.1 (6, 0) 6)) := by
  have hp := p2_le hL
  have hmain : ∃ r, lp (b_F_searchSplit_9 (nI h) (nI (L - h)) (((1 : Int32) <<< (nI (L - h) &&& 31)) - 1)) (0, M) = some r ∧ ((∃ s, r = .inl (s, M) ∧ Cln ga ea gb eb L (h + 1) 0) ∨ ∃ M', r = .inr M' ∧ Frm uF M M' ∧ Fnd ga ea gb eb (M'.1 (6, 0) 2) (M'.1 (6, 0) 3) (M'.1 (6, 0) 4) (M'.1 (6, 0) 5) (M'.1 (6, 0) 6)) := by
    have hsz : (1 : Int32) <<< ((nI h + nI (L - h)) &&& 31) = nI (2 ^ L) := by
      rw [nI_add, show h + (L - h) = L by omega]
      exact (p2 L (by omega)).1
    refine lp_for (2 ^ L) (fun k s => s = (nI k, M) ∧ Cln ga ea gb eb L h k) _ (fun k s hk hs => ?_) (fun s hs => ?_) (k := 0) ⟨rfl, hc⟩ (Nat.zero_le _) (by omega)
    · obtain ⟨rfl, hck⟩ := hs
      have hd := div_lt (Nat.le_of_lt hh) hk
      have hd8 := p2_le (m := h) (by omega)
      have hm := mod_lt k (L - h)
      have hm8 := p2_le (m := L - h) (by omega)
      obtain ⟨b1, t1, t2⟩ := takesLasso_eq (c := 0) (by omega) hAa hTa hL (Nat.le_of_lt hh) (t := L - h) (by omega) (by omega) hd hm
      obtain ⟨b2, t3, t4⟩ := takesLasso_eq (c := 1) (by omega) hAb hTb hL (Nat.le_of_lt hh) (t := L - h) (by omega) (by omega) hd hm
      unfold b_F_searchSplit_9
      rw [hsz]
      show (∃ s', (if nI (2 ^ L) ≤ nI k then _ else _) = _ ∧ _) ∨ (∃ r, (if nI (2 ^ L) ≤ nI k then _ else _) = _ ∧ _)
      rw [if_lt hk (by omega) rfl, bd_some, bd_some]
      show (∃ s', bd (m_T_takesLasso 0 (((1 : Int32) <<< (nI h &&& 31)) ||| (nI k >>> (nI (L - h) &&& 31))) (((1 : Int32) <<< (nI (L - h) &&& 31)) ||| (nI k &&& (((1 : Int32) <<< (nI (L - h) &&& 31)) - 1))) M) _ = _ ∧ _) ∨ _
      rw [sh_div (by omega) (by omega), and_mod (by omega) (by omega), or_place h (by omega) _ (by omega) hd, or_place (L - h) (by omega) _ (by omega) hm, t1, bd_some]
      cases b1 with
      | false =>
        rw [if_pos (show bI false = 0 from rfl)]
        refine Or.inl ⟨_, rfl, by rw [nI_inc], Cln_k hck (fun hit => ?_)⟩
        have := t2.mpr hit.1; cases this
      | true =>
        rw [if_neg (by decide), t3, bd_some]
        cases b2 with
        | false =>
          rw [if_pos (show bI false = 0 from rfl), bd_some, bd_some, bd_some, bd_some, bd_some]
          have hit : Hit ga ea gb eb L h k := ⟨t2.mp rfl, fun h5 => by have := t4.mpr h5; cases this⟩
          refine Or.inr ⟨_, rfl, Or.inr ⟨_, rfl, ((((Frm.uI (S := uF) M _ _ rfl).trans (Frm.uI (S := uF) _ _ _ rfl)).trans (Frm.uI (S := uF) _ _ _ rfl)).trans (Frm.uI (S := uF) _ _ _ rfl)).trans (Frm.uI (S := uF) _ _ _ rfl), L, h, k, hh, hL, hk, hit, hck, ?_, ?_, ?_, ?_, ?_⟩⟩
          · rw [uI_off _ _ _ (by omega), uI_off _ _ _ (by omega), uI_off _ _ _ (by omega), uI_off _ _ _ (by omega), uI_at]
          · rw [uI_off _ _ _ (by omega), uI_off _ _ _ (by omega), uI_off _ _ _ (by omega), uI_at]
          · rw [uI_off _ _ _ (by omega), uI_off _ _ _ (by omega), uI_at]
          · rw [uI_off _ _ _ (by omega), uI_at]
          · rw [uI_at]
        | true =>
          rw [if_neg (by decide)]
          refine Or.inl ⟨_, rfl, by rw [nI_inc], Cln_k hck (fun hit => hit.2 (t4.mp rfl))⟩
    · obtain ⟨rfl, hck⟩ := hs
      refine ⟨.inl (nI (2 ^ L), M), ?_, Or.inl ⟨_, rfl, Cln_h hck⟩⟩
      unfold b_F_searchSplit_9
      rw [hsz]
      show (if nI (2 ^ L) ≤ nI (2 ^ L) then _ else _) = _
      rw [if_ge (Nat.le_refl _) (by omega) rfl]
  obtain ⟨r, h1, ⟨s, rfl, h2⟩ | ⟨M', rfl, h2, h3⟩⟩ := hmain
  · refine ⟨M, ?_, Frm.rfl, Or.inl ⟨hf, h2⟩⟩
    unfold m_F_searchSplit
    rw [bd_some, h1]
    rfl
  · refine ⟨M', ?_, h2, Or.inr h3⟩
    unfold m_F_searchSplit
    rw [bd_some, h1]
    rfl
theorem TabOK_frm {S : Nat × Nat → Prop} {M M' : Mm} {c n L : Nat} {g : Nat → Bool} {e : Ed} (h : TabOK M c n g e L) (hF : Frm S M M') (h0 : ¬ S (1, 12 + 2 * c)) (h1 : ¬ S (1, 13 + 2 * c)) : TabOK M' c n g e L := by
  unfold TabOK
  rw [hF.1 _ h0, hF.1 _ h1]
  exact h
/-- all splits of L letters -/
theorem splits_eq {M : Mm} {L : Nat} (hAa : AOK na ga ea) (hAb : AOK nb gb eb) (hTa : TabOK M 0 na ga ea L) (hTb : TabOK M 1 nb gb eb L) (hL : L ≤ 8) (hf : M.1 (6, 0) 2 = 0) (hc : Cln ga ea gb eb L 0 0) : ∃ r, lp (b_F_search_57 (nI L)) (0, M) = some r ∧ (Frm uF M r.2 ∧ ((r.2.1 (6, 0) 2 = 0 ∧ Cln ga ea gb eb (L + 1) 0 0) ∨ Fnd ga ea gb eb (r.2.1 (6, 0) 2) (r.2.1 (6, 0) 3) (r.2.1 (6, 0) 4) (r.2.1 (6, 0) 5) (r.2.1 (6, 0) 6))) := by
  refine lp_for L (fun h s => s.1 = nI h ∧ Frm uF M s.2 ∧ ((s.2.1 (6, 0) 2 = 0 ∧ Cln ga ea gb eb L h 0) ∨ Fnd ga ea gb eb (s.2.1 (6, 0) 2) (s.2.1 (6, 0) 3) (s.2.1 (6, 0) 4) (s.2.1 (6, 0) 5) (s.2.1 (6, 0) 6))) _ (fun h s hh hs => ?_) (fun s hs => ?_) (k := 0) ⟨rfl, Frm.rfl, Or.inl ⟨hf, hc⟩⟩ (by omega) (by omega)
  · obtain ⟨i0, A⟩ := s
    obtain ⟨rfl, h2, h3⟩ := hs
    unfold b_F_search_57
    show (∃ s', (if nI L ≤ nI h then _ else _) = _ ∧ _) ∨ (∃ r, (if nI L ≤ nI h then _ else _) = _ ∧ _)
    rw [if_lt hh (by omega) rfl]
    rcases h3 with ⟨h3, h4⟩ | h3
    · have h3 : A.1 (6, 0) 2 = 0 := h3
      obtain ⟨B, b1, b2, b3⟩ := split_eq hAa hAb (TabOK_frm hTa h2 (by intro h; cases h) (by intro h; cases h)) (TabOK_frm hTb h2 (by intro h; cases h) (by intro h; cases h)) hL hh h3 h4
      show (∃ s', (if A.1 (6, 0) 2 = 0 then _ else _) = _ ∧ _) ∨ _
      rw [if_pos h3]
      show (∃ s', bd (m_F_searchSplit (nI h) (nI L - nI h) A) _ = _ ∧ _) ∨ _
      rw [pk_sub (by omega), b1, bd_some]
      exact Or.inl ⟨(nI h + 1, B), rfl, nI_inc h, h2.trans b2, b3⟩
    · have hne : ¬ A.1 (6, 0) 2 = 0 := by
        obtain ⟨_, _, _, _, _, _, _, _, e, _⟩ := h3
        intro h; rw [h] at e; exact absurd e (by decide)
      show _ ∨ (∃ r, (if A.1 (6, 0) 2 = 0 then _ else _) = _ ∧ _)
      rw [if_neg hne]
      exact Or.inr ⟨(nI h, A), rfl, h2, Or.inr h3⟩
  · obtain ⟨i0, A⟩ := s
    obtain ⟨rfl, h2, h3⟩ := hs
    refine ⟨(nI L, A), ?_, h2, ?_⟩
    · unfold b_F_search_57
      show (if nI L ≤ nI L then _ else _) = _
      rw [if_ge (Nat.le_refl _) (by omega) rfl]
    · rcases h3 with ⟨h3, h4⟩ | h3
      · exact Or.inl ⟨h3, Cln_L h4⟩
      · exact Or.inr h3
def uS (x : Nat × Nat) : Prop := x = (6, 0) ∨ x = (1, 12) ∨ x = (1, 13) ∨ x = (1, 14) ∨ x = (1, 15)
theorem uT_uS {c : Nat} (hc : c < 2) : ∀ x, uT c x → uS x := by
  intro x h
  rcases (show c = 0 ∨ c = 1 by omega) with rfl | rfl
  · rcases h with rfl | rfl
    · exact Or.inr (Or.inl rfl)
    · exact Or.inr (Or.inr (Or.inl rfl))
  · rcases h with rfl | rfl
    · exact Or.inr (Or.inr (Or.inr (Or.inl rfl)))
    · exact Or.inr (Or.inr (Or.inr (Or.inr rfl)))
theorem CP_uS {M M' : Mm} {j n : Nat} {g : Nat → Bool} {e : Ed} (hj : j < 7) (h : CP M j n g e) (hF : Frm uS M M') : CP M' j n g e := CP_frm h hF (by rintro (h | h | h | h | h) <;> cases h) (by rintro (h | h | h | h | h) <;> cases h <;> omega)
theorem search_eq {M : Mm} {i j : Nat} (hi : i < 6) (hj : j < 6) (hAa : AOK na ga ea) (hAb : AOK nb gb eb) (hCa : CP M i na ga ea) (hCb : CP M j nb gb eb) : ∃ M', m_F_search i j M = some M' ∧ Frm uS M M' ∧ ((M'.1 (6, 0) 2 = 0 ∧ Cln ga ea gb eb 9 0 0) ∨ Fnd ga ea gb eb (M'.1 (6, 0) 2) (M'.1 (6, 0) 3) (M'.1 (6, 0) 4) (M'.1 (6, 0) 5) (M'.1 (6, 0) 6)) := by
  have F1 : Frm uS M (uI M (6, 0) 2 0) := Frm.uI M _ _ (Or.inl rfl)
  obtain ⟨M2, b1, b2, b3⟩ := tbegin_eq (c := 0) (by omega) hAa (CP_uS (by omega) hCa F1)
  have F2 := F1.trans (b3.mono (uT_uS (by omega)))
  obtain ⟨M3, c1, c2, c3⟩ := tbegin_eq (c := 1) (by omega) hAb (CP_uS (by omega) hCb F2)
  have F3 := F2.trans (c3.mono (uT_uS (by omega)))
  have hM3f : M3.1 (6, 0) 2 = 0 := by rw [c3.1 _ (by rintro (h | h) <;> cases h), b3.1 _ (by rintro (h | h) <;> cases h), uI_at]
  have hmain : ∃ r, lp (b_F_search_23 i j) (1, M3) = some r ∧ (Frm uS M r.2 ∧ ((r.2.1 (6, 0) 2 = 0 ∧ Cln ga ea gb eb 9 0 0) ∨ Fnd ga ea gb eb (r.2.1 (6, 0) 2) (r.2.1 (6, 0) 3) (r.2.1 (6, 0) 4) (r.2.1 (6, 0) 5) (r.2.1 (6, 0) 6))) := by
    refine lp_for 9 (fun L s => s.1 = nI L ∧ 1 ≤ L ∧ Frm uS M s.2 ∧ ((s.2.1 (6, 0) 2 = 0 ∧ Cln ga ea gb eb L 0 0 ∧ TabOK s.2 0 na ga ea (L - 1) ∧ TabOK s.2 1 nb gb eb (L - 1)) ∨ Fnd ga ea gb eb (s.2.1 (6, 0) 2) (s.2.1 (6, 0) 3) (s.2.1 (6, 0) 4) (s.2.1 (6, 0) 5) (s.2.1 (6, 0) 6))) _ (fun L s hL hs => ?_) (fun s hs => ?_) (k := 1) ⟨rfl, Nat.le_refl 1, F3, Or.inl ⟨hM3f, Cln_0, TabOK_frm b2 c3 (by rintro (h | h) <;> cases h) (by rintro (h | h) <;> cases h), c2⟩⟩ (by omega) (by omega)
    · obtain ⟨i0, A⟩ := s
      obtain ⟨rfl, hL1, h2, h3⟩ := hs
      unfold b_F_search_23
      have hcmp : ¬ (8 : Int32) < nI L := nI_nlt (a := 8) (by omega) (by omega)
      show (∃ s', (if (8 : Int32) < nI L then _ else _) = _ ∧ _) ∨ (∃ r, (if (8 : Int32) < nI L then _ else _) = _ ∧ _)
      rw [if_neg hcmp]
      rcases h3 with ⟨h3, h4, h5, h6⟩ | h3
      · have h3 : A.1 (6, 0) 2 = 0 := h3
        obtain ⟨l, rfl⟩ : ∃ l, L = l + 1 := ⟨L - 1, by omega⟩
        rw [show l + 1 - 1 = l by omega] at h5 h6
        obtain ⟨B, d1, d2, d3⟩ := addWords_eq (c := 0) (by omega) (by omega) hAa (CP_uS (by omega) hCa h2) (by omega) h5
        have FB := h2.trans (d3.mono (uT_uS (by omega)))
        obtain ⟨C, e1, e2, e3⟩ := addWords_eq (c := 1) (by omega) (by omega) hAb (CP_uS (by omega) hCb FB) (by omega) (TabOK_frm h6 d3 (by rintro (h | h) <;> cases h) (by rintro (h | h) <;> cases h))
        have FC := FB.trans (e3.mono (uT_uS (by omega)))
        have d2C := TabOK_frm d2 e3 (by rintro (h | h) <;> cases h) (by rintro (h | h) <;> cases h)
        have hCf : C.1 (6, 0) 2 = 0 := by rw [e3.1 _ (by rintro (h | h) <;> cases h), d3.1 _ (by rintro (h | h) <;> cases h)]; exact h3
        obtain ⟨r, r1, r2, r3⟩ := splits_eq hAa hAb d2C e2 (by omega) hCf h4
        show (∃ s', (if A.1 (6, 0) 2 = 0 then _ else _) = _ ∧ _) ∨ _
        rw [if_pos h3]
        show (∃ s', bd (m_T_addWords 0 i (nI (l + 1)) A) _ = _ ∧ _) ∨ _
        rw [d1, bd_some]
        show (∃ s', bd (m_T_addWords 1 j (nI (l + 1)) B) _ = _ ∧ _) ∨ _
        rw [e1, bd_some]
        show (∃ s', bd (lp (b_F_search_57 (nI (l + 1))) (0, C)) _ = _ ∧ _) ∨ _
        rw [r1, bd_some]
        refine Or.inl ⟨(nI (l + 1) + 1, r.2), rfl, nI_inc _, by omega, FC.trans (r2.mono fun x h => Or.inl h), ?_⟩
        rcases r3 with ⟨r3, r4⟩ | r3
        · exact Or.inl ⟨r3, r4, TabOK_frm d2C r2 (by intro h; cases h) (by intro h; cases h), TabOK_frm e2 r2 (by intro h; cases h) (by intro h; cases h)⟩
        · exact Or.inr r3
      · have hne : ¬ A.1 (6, 0) 2 = 0 := by
          obtain ⟨_, _, _, _, _, _, _, _, e, _⟩ := h3
          intro h; rw [h] at e; exact absurd e (by decide)
        show _ ∨ (∃ r, (if A.1 (6, 0) 2 = 0 then _ else _) = _ ∧ _)
        rw [if_neg hne]
        exact Or.inr ⟨(nI L, A), rfl, h2, Or.inr h3⟩
    · obtain ⟨i0, A⟩ := s
      obtain ⟨rfl, hL1, h2, h3⟩ := hs
      refine ⟨(nI 9, A), ?_, h2, ?_⟩
      · unfold b_F_search_23
        show (if (8 : Int32) < nI 9 then _ else _) = _
        rw [if_pos (by decide)]
      · rcases h3 with ⟨h3, h4, -⟩ | h3
        · exact Or.inl ⟨h3, h4⟩
        · exact Or.inr h3
  obtain ⟨r, h1, h2, h3⟩ := hmain
  refine ⟨r.2, ?_, h2, h3⟩
  unfold m_F_search
  rw [bd_some, b1, bd_some, c1, bd_some, h1, bd_some]
end SRCH
