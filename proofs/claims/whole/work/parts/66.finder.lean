/-! the finder's tables of words -/
theorem wl_snoc {u v : Int32} : ∀ (m : Nat), (∀ i, i < m → bt v i = bt u (i + 1)) → wl u (m + 1) = wl v m ++ [lt1 u 0]
  | 0, _ => rfl
  | m + 1, h => by
    show lt1 u (m + 1) :: wl u (m + 1) = lt1 v m :: (wl v m ++ [lt1 u 0])
    rw [wl_snoc m (fun i hi => h i (by omega))]
    have : lt1 u (m + 1) = lt1 v m := by unfold lt1; rw [h m (by omega)]
    rw [this]
theorem wl_half {u : Nat} (hu : u < 512) (m : Nat) : wl (nI u) (m + 1) = wl (nI (u / 2)) m ++ [lt1 (nI u) 0] := by
  refine wl_snoc m (fun i _ => ?_)
  rw [bt_nI (by omega), bt_nI (by omega), Nat.testBit_succ]
/-- the first ones: words of up to L letters have their rows -/
def TabOK (M : Mm) (c n : Nat) (g : Nat → Bool) (e : Ed) (L : Nat) : Prop := ∀ m, m ≤ L → ∀ u, u < 2 ^ m → Pw n g e (fun _ => True) (wl (nI u) m) (M.1 (1, 12 + 2 * c) (2 ^ m + u)) ∧ (0 < m → ∀ i, bt (M.1 (1, 13 + 2 * c) (2 ^ m + u)) i = true ↔ i < 4 ∧ Rp (M.1 (1, 12 + 2 * c) (2 ^ m + u)) i)
theorem lenI_tab {c : Nat} (hc : c < 4) : lenI (12 + c) = 512 := by
  rcases (show c = 0 ∨ c = 1 ∨ c = 2 ∨ c = 3 by omega) with rfl | rfl | rfl | rfl <;> rfl
def uT (c : Nat) (x : Nat × Nat) : Prop := x = (1, 12 + 2 * c) ∨ x = (1, 13 + 2 * c)
theorem tbegin_eq {M : Mm} {c i n : Nat} {g : Nat → Bool} {e : Ed} (hc : c < 2) (hA : AOK n g e) (hC : CP M i n g e) : ∃ M', m_T_begin c i M = some M' ∧ TabOK M' c n g e 0 ∧ Frm (uT c) M M' := by
  obtain ⟨r, h1, h2⟩ := emptyAll_eq hA hC
  unfold m_T_begin
  have hin : inb (1 : Int32) (lenI (12 + 2 * c)) = true := vp_inb (show vp_in (nI 1) _ from by rw [lenI_tab (c := 2 * c) (by omega)]; exact vp_in_nI (by omega) (by omega))
  rw [h1, bd_some, ck_of hin, bd_some]
  refine ⟨_, rfl, fun m hm u hu => ?_, Frm.uI M _ _ (Or.inl rfl)⟩
  have hm0 : m = 0 := by omega
  subst hm0
  have hu0 : u = 0 := by simpa using hu
  subst hu0
  refine ⟨?_, fun h => by omega⟩
  show Pw n g e _ [] ((uI M (1, 12 + 2 * c) 1 r).1 (1, 12 + 2 * c) 1)
  rw [uI_at]
  exact h2
theorem p2 : ∀ m, m < 10 → (1 : Int32) <<< (nI m &&& 31) = nI (2 ^ m) ∧ (2 : Int32) <<< (nI m &&& 31) = nI (2 ^ (m + 1)) := by decide +kernel
theorem p2_le {m : Nat} (hm : m ≤ 8) : 2 ^ m ≤ 256 := Nat.pow_le_pow_right (by omega) hm
theorem nI_shr1 {k : Nat} (hk : k < 2 ^ 31) : nI k >>> ((1 : Int32) &&& 31) = nI (k / 2) := pk_shrN hk _ 1 (by decide)
theorem nI_and1 {k : Nat} (hk : k < 2 ^ 31) : nI k &&& 1 = nI (k % 2) := pk_andN (by omega) 1 (by decide)
theorem lt1_0 {u : Nat} (hu : u < 512) : lt1 (nI u) 0 = u % 2 := by
  unfold lt1
  rw [bt_nI (by omega), Nat.testBit_zero]
  rcases Nat.mod_two_eq_zero_or_one u with h | h <;> simp [h]
theorem addWords_eq {M : Mm} {c i n L : Nat} {g : Nat → Bool} {e : Ed} (hc : c < 2) (hi : i < 7) (hA : AOK n g e) (hC : CP M i n g e) (hL : L < 8) (hT : TabOK M c n g e L) : ∃ M', m_T_addWords c i (nI (L + 1)) M = some M' ∧ TabOK M' c n g e (L + 1) ∧ Frm (uT c) M M' := by
  have hp := p2_le (m := L + 1) (by omega)
  have hp2 : 2 ^ (L + 1) = 2 * 2 ^ L := by rw [Nat.pow_succ]; omega
  have hp3 : 2 ^ (L + 1 + 1) = 2 * 2 ^ (L + 1) := by rw [Nat.pow_succ]; omega
  have hpos : 0 < 2 ^ L := Nat.two_pow_pos L
  have hne : ¬ ((1, 13 + 2 * c) = ((1, 12 + 2 * c) : Nat × Nat)) := by
    intro h
    have h : 13 + 2 * c = 12 + 2 * c := congrArg Prod.snd h
    omega
  have hne' : ¬ ((1, 12 + 2 * c) = ((1, 13 + 2 * c) : Nat × Nat)) := by
    intro h
    have h : 12 + 2 * c = 13 + 2 * c := congrArg Prod.snd h
    omega
  have h1 : ∃ r, lp (b_T_addWords_4 c i (nI (L + 1))) (nI (2 ^ (L + 1)), M) = some r ∧ (TabOK r.2 c n g e (L + 1) ∧ Frm (uT c) M r.2) := by
    refine lp_for (2 ^ (L + 1 + 1)) (fun k s => s.1 = nI k ∧ 2 ^ (L + 1) ≤ k ∧ (TabOK s.2 c n g e L ∧ ∀ u, u < k - 2 ^ (L + 1) → Pw n g e (fun _ => True) (wl (nI u) (L + 1)) (s.2.1 (1, 12 + 2 * c) (2 ^ (L + 1) + u)) ∧ ∀ i, bt (s.2.1 (1, 13 + 2 * c) (2 ^ (L + 1) + u)) i = true ↔ i < 4 ∧ Rp (s.2.1 (1, 12 + 2 * c) (2 ^ (L + 1) + u)) i) ∧ Frm (uT c) M s.2) _ (fun k s hk h => ?_) (fun s h => ?_) (k := 2 ^ (L + 1)) ⟨rfl, Nat.le_refl _, ⟨hT, fun u hu => by omega⟩, Frm.rfl⟩ (by omega) (by omega)
    · obtain ⟨i0, A⟩ := s
      obtain ⟨rfl, hkl, ⟨h2, h4⟩, h3⟩ := h
      have h2 : TabOK A c n g e L := h2
      have hAi : CP A i n g e := CP_frm hC h3 (by rintro (h | h) <;> cases h) (by rintro (h | h) <;> cases h <;> omega)
      obtain ⟨u, rfl⟩ : ∃ u, k = 2 ^ (L + 1) + u := ⟨k - 2 ^ (L + 1), by omega⟩
      have hu : u < 2 ^ (L + 1) := by omega
      have hdiv : (2 ^ (L + 1) + u) / 2 = 2 ^ L + u / 2 := by omega
      have hmod : (2 ^ (L + 1) + u) % 2 = u % 2 := by omega
      obtain ⟨r, r1, r2⟩ := longer_word hi hA hAi (h2 L (Nat.le_refl L) (u / 2) (by omega)).1 (l := u % 2) (by omega)
      rw [← lt1_0 (by omega), ← wl_half (by omega)] at r2
      obtain ⟨t, t1, t2⟩ := takenRepeated_eq r
      refine Or.inl ⟨(nI (2 ^ (L + 1) + u) + 1, uI (uI A (1, 12 + 2 * c) (2 ^ (L + 1) + u) r) (1, 13 + 2 * c) (2 ^ (L + 1) + u) t), ?_, nI_inc _, by omega, ⟨fun m hm v hv => ?_, fun v hv => ?_⟩, h3.trans ((Frm.uI A _ _ (Or.inl rfl)).trans (Frm.uI _ _ _ (Or.inr rfl)))⟩
      · unfold b_T_addWords_4
        show (if (2 : Int32) <<< (nI (L + 1) &&& 31) ≤ nI (2 ^ (L + 1) + u) then _ else _) = _
        rw [(p2 (L + 1) (by omega)).2, if_lt (B := 2 ^ (L + 1 + 1)) hk (by omega) rfl]
        show (if (512 : Int32) ≤ nI (2 ^ (L + 1) + u) then _ else _) = _
        rw [if_lt (x := 512) (B := 512) (by omega) (by omega) rfl]
        show ck (inb (nI (2 ^ (L + 1) + u) >>> ((1 : Int32) &&& 31)) _) (bd (m_A_longerPassage i (A.1 (1, 12 + 2 * c) (nI (2 ^ (L + 1) + u) >>> ((1 : Int32) &&& 31)).toNatClampNeg) (nI (2 ^ (L + 1) + u) &&& 1) A) _) = _
        rw [nI_shr1 (by omega), nI_and1 (by omega), hdiv, hmod, nI_clamp (by omega), ck_of (vp_inb (by rw [lenI_tab (c := 2 * c) (by omega)]; exact vp_in_nI (by omega) (by omega))), r1, bd_some]
        show ck (inb (nI (2 ^ (L + 1) + u)) _) _ = _
        rw [ck_of (vp_inb (by rw [lenI_tab (c := 2 * c) (by omega)]; exact vp_in_nI (by omega) (by omega))), bd_some, t1, bd_some, ck_of (vp_inb (by rw [show 13 + 2 * c = 12 + (2 * c + 1) by omega, lenI_tab (by omega)]; exact vp_in_nI (by omega) (by omega))), bd_some, nI_clamp (by omega)]
      · -- the shorter words are as they were
        have hlt : 2 ^ m + v < 2 ^ (L + 1) + u := by
          have h5 : 2 ^ m ≤ 2 ^ L := Nat.pow_le_pow_right (by omega) hm
          omega
        show Pw n g e _ _ ((uI (uI A (1, 12 + 2 * c) (2 ^ (L + 1) + u) r) (1, 13 + 2 * c) (2 ^ (L + 1) + u) t).1 (1, 12 + 2 * c) (2 ^ m + v)) ∧ (0 < m → ∀ i, bt ((uI (uI A (1, 12 + 2 * c) (2 ^ (L + 1) + u) r) (1, 13 + 2 * c) (2 ^ (L + 1) + u) t).1 (1, 13 + 2 * c) (2 ^ m + v)) i = true ↔ i < 4 ∧ Rp ((uI (uI A (1, 12 + 2 * c) (2 ^ (L + 1) + u) r) (1, 13 + 2 * c) (2 ^ (L + 1) + u) t).1 (1, 12 + 2 * c) (2 ^ m + v)) i)
        rw [uI_ne _ _ _ hne', uI_off _ _ _ (by omega), uI_off _ _ _ (by omega), uI_ne _ _ _ hne]
        exact h2 m hm v hv
      · show Pw n g e _ _ ((uI (uI A (1, 12 + 2 * c) (2 ^ (L + 1) + u) r) (1, 13 + 2 * c) (2 ^ (L + 1) + u) t).1 (1, 12 + 2 * c) (2 ^ (L + 1) + v)) ∧ ∀ i, bt ((uI (uI A (1, 12 + 2 * c) (2 ^ (L + 1) + u) r) (1, 13 + 2 * c) (2 ^ (L + 1) + u) t).1 (1, 13 + 2 * c) (2 ^ (L + 1) + v)) i = true ↔ i < 4 ∧ Rp ((uI (uI A (1, 12 + 2 * c) (2 ^ (L + 1) + u) r) (1, 13 + 2 * c) (2 ^ (L + 1) + u) t).1 (1, 12 + 2 * c) (2 ^ (L + 1) + v)) i
        rw [uI_ne _ _ _ hne']
        by_cases ev : v = u
        · subst ev
          rw [uI_at, uI_at]
          exact ⟨r2, t2⟩
        · rw [uI_off _ _ _ (by omega), uI_off _ _ _ (by omega), uI_ne _ _ _ hne]
          exact h4 v (by omega)
    · obtain ⟨i0, A⟩ := s
      obtain ⟨rfl, hkl, ⟨h2, h4⟩, h3⟩ := h
      refine ⟨(nI (2 ^ (L + 1 + 1)), A), ?_, fun m hm v hv => ?_, h3⟩
      · unfold b_T_addWords_4
        show (if (2 : Int32) <<< (nI (L + 1) &&& 31) ≤ nI (2 ^ (L + 1 + 1)) then _ else _) = _
        rw [(p2 (L + 1) (by omega)).2, if_ge (B := 2 ^ (L + 1 + 1)) (Nat.le_refl _) (by omega) rfl]
      · by_cases em : m = L + 1
        · subst em
          have := h4 v (by omega)
          exact ⟨this.1, fun _ => this.2⟩
        · exact h2 m (by omega) v hv
  obtain ⟨r, h2, h3, h4⟩ := h1
  refine ⟨r.2, ?_, h3, h4⟩
  unfold m_T_addWords
  rw [(p2 (L + 1) (by omega)).1, h2, bd_some]
theorem takesLasso_eq {M : Mm} {c n L h t : Nat} {g : Nat → Bool} {e : Ed} (hc : c < 2) (hA : AOK n g e) (hT : TabOK M c n g e L) (hL : L ≤ 8) (hh : h ≤ L) (ht : t ≤ L) (ht0 : 0 < t) {x y : Nat} (hx : x < 2 ^ h) (hy : y < 2 ^ t) : ∃ b, m_T_takesLasso c (nI (2 ^ h + x)) (nI (2 ^ t + y)) M = some b ∧ (b = true ↔ Tk e g (wl (nI x) h) (wl (nI y) t)) := by
  have h1 := p2_le (m := h) (by omega)
  have h2 := p2_le (m := t) (by omega)
  have a1 := (hT h hh x hx).1
  have a2 := hT t ht y hy
  have key := lasso_class hA a1 a2.1 (a2.2 ht0)
  unfold m_T_takesLasso
  rw [ck_of (vp_inb (by rw [lenI_tab (c := 2 * c) (by omega)]; exact vp_in_nI (by omega) (by omega))), fromStart_eq, bd_some, ck_of (vp_inb (by rw [show 13 + 2 * c = 12 + (2 * c + 1) by omega, lenI_tab (by omega)]; exact vp_in_nI (by omega) (by omega))), nI_clamp (by omega), nI_clamp (by omega)]
  by_cases hz : (en (M.1 (1, 12 + 2 * c) (2 ^ h + x)) 0 &&& M.1 (1, 13 + 2 * c) (2 ^ t + y)) = 0
  · rw [if_pos hz]
    exact ⟨false, rfl, fun h => (by cases h), fun h => absurd hz (key.mpr h)⟩
  · rw [if_neg hz]
    exact ⟨true, rfl, fun _ => key.mp hz, fun _ => rfl⟩
