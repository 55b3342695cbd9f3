/-! the reference's look -/
theorem RP_frm {S : Nat × Nat → Prop} {M M' : Mm} {a n : Nat} {g : Nat → Bool} {e : Ed} (h : RP M a n g e) (hF : Frm S M M') (h6 : ¬ S (1, 16)) (h7 : ¬ S (1, 17)) (h8 : ¬ S (1, 18)) : RP M' a n g e := by
  unfold RP
  rw [hF.1 _ h6, hF.1 _ h7, hF.1 _ h8]
  exact h
section LOOK
variable {na nb : Nat} {ga gb : Nat → Bool} {ea eb : Ed}
def uW (x : Nat × Nat) : Prop := x = (1, 19)
theorem tail_eq {k t : Nat} (hk : k < 2 ^ 20) (ht : t < 9) : nI k - ((nI k >>> (nI t &&& 31)) <<< (nI t &&& 31)) = nI (k % 2 ^ t) := by
  have h1 := Nat.div_add_mod k (2 ^ t)
  have h2 : k / 2 ^ t * 2 ^ t ≤ k := Nat.div_mul_le_self k (2 ^ t)
  have h3 : k / 2 ^ t * 2 ^ t = 2 ^ t * (k / 2 ^ t) := Nat.mul_comm _ _
  rw [sh_div (by omega) (by omega), pk_shlN _ t (s_l t (by omega)) (by omega), pk_sub h2]
  congr 1
  omega
theorem in19 {i : Nat} (h : i < 4) : inb (nI i) (lenI 19) = true := vp_inb (vp_in_nI (N := 4) h (by omega))
theorem look_in {M : Mm} {a b L h : Nat} (hAa : AOK na ga ea) (hAb : AOK nb gb eb) (hRa : RP M a na ga ea) (hRb : RP M b nb gb eb) (ha : a < 6) (hb : b < 6) (hL : L ≤ 8) (hh : h < L) (hc : Cln ga ea gb eb L h 0) : ∃ r, lp (b_M_look_18 (nI a) (nI b) (nI L) (nI h) (nI (L - h))) (0, M) = some r ∧ ((∃ s, r = .inl (s, M) ∧ Cln ga ea gb eb L (h + 1) 0) ∨ ∃ M', r = .inr (true, M') ∧ Frm uW M M' ∧ Fnd ga ea gb eb 1 (M'.1 (1, 19) 0) (M'.1 (1, 19) 1) (M'.1 (1, 19) 2) (M'.1 (1, 19) 3)) := by
  have hp := p2_le hL
  refine lp_for (2 ^ L) (fun k s => s = (nI k, M) ∧ Cln ga ea gb eb L h k) _ (fun k s hk hs => ?_) (fun s hs => ?_) (k := 0) ⟨rfl, hc⟩ (Nat.zero_le _) (by omega)
  · obtain ⟨rfl, hck⟩ := hs
    have hd := div_lt (Nat.le_of_lt hh) hk
    have hm := mod_lt k (L - h)
    obtain ⟨b1, t1, t2⟩ := lasso_eq (u := nI (k / 2 ^ (L - h))) (v := nI (k % 2 ^ (L - h))) hAa hRa ha (m := h) (k := L - h) (by omega) (by omega) (by omega)
    obtain ⟨b2, t3, t4⟩ := lasso_eq (u := nI (k / 2 ^ (L - h))) (v := nI (k % 2 ^ (L - h))) hAb hRb hb (m := h) (k := L - h) (by omega) (by omega) (by omega)
    unfold b_M_look_18
    show (∃ s', (if nI k >>> (nI L &&& 31) = 0 then _ else _) = _ ∧ _) ∨ (∃ r, (if nI k >>> (nI L &&& 31) = 0 then _ else _) = _ ∧ _)
    rw [if_pos (by rw [sh_div (by omega) (by omega), Nat.div_eq_of_lt hk]; rfl)]
    show (∃ s', bd (some (nI k - ((nI k >>> (nI (L - h) &&& 31)) <<< (nI (L - h) &&& 31)))) _ = _ ∧ _) ∨ _
    rw [tail_eq (by omega) (by omega), bd_some]
    show (∃ s', bd (m_M_lasso (nI a) (nI h) (nI k >>> (nI (L - h) &&& 31)) (nI (L - h)) (nI (k % 2 ^ (L - h))) M) _ = _ ∧ _) ∨ _
    rw [sh_div (by omega) (by omega), t1, bd_some]
    cases b1 with
    | false =>
      rw [if_pos (show bI false = 0 from rfl)]
      refine Or.inl ⟨(nI k + 1, M), rfl, by rw [nI_inc], Cln_k hck (fun hit => ?_)⟩
      have := t2.mpr hit.1; cases this
    | true =>
      rw [if_neg (by decide)]
      show (∃ s', bd (m_M_lasso (nI b) (nI h) (nI (k / 2 ^ (L - h))) (nI (L - h)) (nI (k % 2 ^ (L - h))) M) _ = _ ∧ _) ∨ _
      rw [t3, bd_some]
      cases b2 with
      | false =>
        rw [if_pos (show bI false = 0 from rfl), ck_of (show inb (0 : Int32) (lenI 19) = true from in19 (i := 0) (by omega)), bd_some, ck_of (show inb (1 : Int32) (lenI 19) = true from in19 (i := 1) (by omega)), bd_some, ck_of (show inb (2 : Int32) (lenI 19) = true from in19 (i := 2) (by omega)), bd_some, ck_of (show inb (3 : Int32) (lenI 19) = true from in19 (i := 3) (by omega)), bd_some]
        have hit : Hit ga ea gb eb L h k := ⟨t2.mp rfl, fun h5 => by have := t4.mpr h5; cases this⟩
        refine Or.inr ⟨_, rfl, Or.inr ⟨_, rfl, (((Frm.uI (S := uW) M _ _ rfl).trans (Frm.uI (S := uW) _ _ _ rfl)).trans (Frm.uI (S := uW) _ _ _ rfl)).trans (Frm.uI (S := uW) _ _ _ rfl), L, h, k, hh, hL, hk, hit, hck, rfl, ?_, ?_, ?_, ?_⟩⟩
        · show (uI (uI (uI (uI M (1, 19) 0 _) (1, 19) 1 _) (1, 19) 2 _) (1, 19) 3 _).1 (1, 19) 0 = _
          rw [uI_off _ _ _ (by omega), uI_off _ _ _ (by omega), uI_off _ _ _ (by omega), uI_at]
        · show (uI (uI (uI (uI M (1, 19) 0 _) (1, 19) 1 _) (1, 19) 2 _) (1, 19) 3 _).1 (1, 19) 1 = _
          rw [uI_off _ _ _ (by omega), uI_off _ _ _ (by omega), uI_at]
        · show (uI (uI (uI (uI M (1, 19) 0 _) (1, 19) 1 _) (1, 19) 2 _) (1, 19) 3 _).1 (1, 19) 2 = _
          rw [uI_off _ _ _ (by omega), uI_at]
        · show (uI (uI (uI (uI M (1, 19) 0 _) (1, 19) 1 _) (1, 19) 2 _) (1, 19) 3 _).1 (1, 19) 3 = _
          rw [uI_at]
      | true =>
        rw [if_neg (by decide)]
        exact Or.inl ⟨(nI k + 1, M), rfl, by rw [nI_inc], Cln_k hck (fun hit => hit.2 (t4.mp rfl))⟩
  · obtain ⟨rfl, hck⟩ := hs
    refine ⟨.inl (nI (2 ^ L), M), ?_, Or.inl ⟨_, rfl, Cln_h hck⟩⟩
    unfold b_M_look_18
    show (if nI (2 ^ L) >>> (nI L &&& 31) = 0 then _ else _) = _
    rw [if_neg (by rw [sh_div (by omega) (by omega), Nat.div_self (Nat.two_pow_pos L)]; decide)]
theorem look_eq {M : Mm} {a b L : Nat} (hAa : AOK na ga ea) (hAb : AOK nb gb eb) (hRa : RP M a na ga ea) (hRb : RP M b nb gb eb) (ha : a < 6) (hb : b < 6) (hL : L ≤ 8) (hc : Cln ga ea gb eb L 0 0) : ∃ f M', m_M_look (nI a) (nI b) (nI L) M = some (f, M') ∧ ((f = false ∧ M' = M ∧ Cln ga ea gb eb (L + 1) 0 0) ∨ (f = true ∧ Frm uW M M' ∧ Fnd ga ea gb eb 1 (M'.1 (1, 19) 0) (M'.1 (1, 19) 1) (M'.1 (1, 19) 2) (M'.1 (1, 19) 3))) := by
  have hmain : ∃ r, lp (b_M_look_3 (nI a) (nI b) (nI L)) (0, M) = some r ∧ ((∃ s, r = .inl (s, M) ∧ Cln ga ea gb eb (L + 1) 0 0) ∨ ∃ M', r = .inr (true, M') ∧ Frm uW M M' ∧ Fnd ga ea gb eb 1 (M'.1 (1, 19) 0) (M'.1 (1, 19) 1) (M'.1 (1, 19) 2) (M'.1 (1, 19) 3)) := by
    refine lp_for L (fun h s => s = (nI h, M) ∧ Cln ga ea gb eb L h 0) _ (fun h s hh hs => ?_) (fun s hs => ?_) (k := 0) ⟨rfl, hc⟩ (Nat.zero_le _) (by omega)
    · obtain ⟨rfl, hch⟩ := hs
      unfold b_M_look_3
      show (∃ s', (if nI L ≤ nI h then _ else _) = _ ∧ _) ∨ (∃ r, (if nI L ≤ nI h then _ else _) = _ ∧ _)
      rw [if_lt hh (by omega) rfl]
      show (∃ s', bd (lp (b_M_look_18 (nI a) (nI b) (nI L) (nI h) (nI L - nI h)) (0, M)) _ = _ ∧ _) ∨ (∃ s', bd (lp (b_M_look_18 (nI a) (nI b) (nI L) (nI h) (nI L - nI h)) (0, M)) _ = _ ∧ _)
      rw [pk_sub (by omega)]
      obtain ⟨r, h1, ⟨s, rfl, h2⟩ | ⟨M', rfl, h2, h3⟩⟩ := look_in hAa hAb hRa hRb ha hb hL hh hch
      · rw [h1, bd_some]
        exact Or.inl ⟨(nI h + 1, M), rfl, by rw [nI_inc], h2⟩
      · rw [h1, bd_some]
        exact Or.inr ⟨_, rfl, Or.inr ⟨M', rfl, h2, h3⟩⟩
    · obtain ⟨rfl, hch⟩ := hs
      refine ⟨.inl (nI L, M), ?_, Or.inl ⟨_, rfl, Cln_L hch⟩⟩
      unfold b_M_look_3
      show (if nI L ≤ nI L then _ else _) = _
      rw [if_ge (Nat.le_refl _) (by omega) rfl]
  obtain ⟨r, h1, ⟨s, rfl, h2⟩ | ⟨M', rfl, h2, h3⟩⟩ := hmain
  · refine ⟨false, M, ?_, Or.inl ⟨rfl, rfl, h2⟩⟩
    unfold m_M_look
    rw [h1]
    rfl
  · refine ⟨true, M', ?_, Or.inr ⟨rfl, h2, h3⟩⟩
    unfold m_M_look
    rw [h1]
    rfl
def uV (x : Nat × Nat) : Prop := x = (1, 19) ∨ x = (8, 0)
/-- the reference's loop over the lengths -/
theorem looks_eq {M : Mm} {a b : Nat} (hAa : AOK na ga ea) (hAb : AOK nb gb eb) (hRa : RP M a na ga ea) (hRb : RP M b nb gb eb) (ha : a < 6) (hb : b < 6) (hf : M.1 (8, 0) 4 = 0) : ∃ r, lp (b_M_included_77 (nI a) (nI b)) (1, M) = some r ∧ (Frm uV M r.2 ∧ r.2.1 (8, 0) 0 = M.1 (8, 0) 0 ∧ ((r.2.1 (8, 0) 4 = 0 ∧ Cln ga ea gb eb 9 0 0) ∨ Fnd ga ea gb eb (r.2.1 (8, 0) 4) (r.2.1 (1, 19) 0) (r.2.1 (1, 19) 1) (r.2.1 (1, 19) 2) (r.2.1 (1, 19) 3))) := by
  have nW : ¬ ((8, 0) = ((1, 19) : Nat × Nat)) := by intro h; cases h
  have nW' : ¬ ((1, 19) = ((8, 0) : Nat × Nat)) := by intro h; cases h
  refine lp_for 9 (fun L s => s.1 = nI L ∧ 1 ≤ L ∧ Frm uV M s.2 ∧ s.2.1 (8, 0) 0 = M.1 (8, 0) 0 ∧ ((s.2.1 (8, 0) 4 = 0 ∧ Cln ga ea gb eb L 0 0) ∨ Fnd ga ea gb eb (s.2.1 (8, 0) 4) (s.2.1 (1, 19) 0) (s.2.1 (1, 19) 1) (s.2.1 (1, 19) 2) (s.2.1 (1, 19) 3))) _ (fun L s hL hs => ?_) (fun s hs => ?_) (k := 1) ⟨rfl, Nat.le_refl 1, Frm.rfl, rfl, Or.inl ⟨hf, Cln_0⟩⟩ (by omega) (by omega)
  · obtain ⟨i0, A⟩ := s
    obtain ⟨rfl, hL1, h2, h5, h3⟩ := hs
    have h5 : A.1 (8, 0) 0 = M.1 (8, 0) 0 := h5
    unfold b_M_included_77
    have hcmp : ¬ (8 : Int32) < nI L := nI_nlt (a := 8) (by omega) (by omega)
    show (∃ s', (if (8 : Int32) < nI L then _ else _) = _ ∧ _) ∨ (∃ r, (if (8 : Int32) < nI L then _ else _) = _ ∧ _)
    rw [if_neg hcmp]
    rcases h3 with ⟨h3, h4⟩ | h3
    · have h3 : A.1 (8, 0) 4 = 0 := h3
      obtain ⟨f, B, b1, b2⟩ := look_eq hAa hAb (RP_frm hRa h2 (by rintro (h | h) <;> cases h) (by rintro (h | h) <;> cases h) (by rintro (h | h) <;> cases h)) (RP_frm hRb h2 (by rintro (h | h) <;> cases h) (by rintro (h | h) <;> cases h) (by rintro (h | h) <;> cases h)) ha hb (L := L) (by omega) h4
      show (∃ s', (if A.1 (8, 0) 4 = 0 then _ else _) = _ ∧ _) ∨ _
      rw [if_pos h3]
      show (∃ s', bd (m_M_look (nI a) (nI b) (nI L) A) _ = _ ∧ _) ∨ _
      rw [b1, bd_some, bd_some]
      rcases b2 with ⟨rfl, rfl, b2⟩ | ⟨rfl, b2, b3⟩
      · refine Or.inl ⟨_, rfl, nI_inc L, by omega, h2.trans (Frm.uI _ _ _ (Or.inr rfl)), ?_, Or.inl ⟨?_, b2⟩⟩
        · show (uI B (8, 0) 4 _).1 (8, 0) 0 = _
          rw [uI_off _ _ _ (by omega)]; exact h5
        · show (uI B (8, 0) 4 _).1 (8, 0) 4 = _
          rw [uI_at]; rfl
      · refine Or.inl ⟨_, rfl, nI_inc L, by omega, (h2.trans (b2.mono fun x h => Or.inl h)).trans (Frm.uI _ _ _ (Or.inr rfl)), ?_, Or.inr ?_⟩
        · show (uI B (8, 0) 4 _).1 (8, 0) 0 = _
          rw [uI_off _ _ _ (by omega), b2.1 _ nW]; exact h5
        · show Fnd ga ea gb eb ((uI B (8, 0) 4 _).1 (8, 0) 4) ((uI B (8, 0) 4 _).1 (1, 19) 0) ((uI B (8, 0) 4 _).1 (1, 19) 1) ((uI B (8, 0) 4 _).1 (1, 19) 2) ((uI B (8, 0) 4 _).1 (1, 19) 3)
          rw [uI_at, uI_ne _ _ _ nW']
          exact b3
    · have hne : ¬ A.1 (8, 0) 4 = 0 := by
        obtain ⟨_, _, _, _, _, _, _, _, e, _⟩ := h3
        intro h; rw [h] at e; exact absurd e (by decide)
      show _ ∨ (∃ r, (if A.1 (8, 0) 4 = 0 then _ else _) = _ ∧ _)
      rw [if_neg hne]
      exact Or.inr ⟨(nI L, A), rfl, h2, h5, Or.inr h3⟩
  · obtain ⟨i0, A⟩ := s
    obtain ⟨rfl, hL1, h2, h5, h3⟩ := hs
    refine ⟨(nI 9, A), ?_, h2, h5, ?_⟩
    · unfold b_M_included_77
      show (if (8 : Int32) < nI 9 then _ else _) = _
      rw [if_pos (by decide)]
    · rcases h3 with ⟨h3, h4⟩ | h3
      · exact Or.inl ⟨h3, h4⟩
      · exact Or.inr h3
end LOOK
