/-! the table of outer passages: probing, the queue, an offer -/
theorem pigeon {α : Type} [DecidableEq α] : ∀ (n : Nat) (f : Nat → α) (L : List α), (∀ i, i < n → f i ∈ L) → (∀ i j, i < j → j < n → f i ≠ f j) → n ≤ L.length
  | 0, _, _, _, _ => Nat.zero_le _
  | n + 1, f, L, h1, h2 => by
    have h3 := h1 n (by omega)
    have h4 := pigeon n f (L.erase (f n)) (fun i hi => (List.mem_erase_of_ne (h2 i n hi (by omega))).mpr (h1 i (by omega))) (fun i j hij hj => h2 i j hij (by omega))
    rw [List.length_erase_of_mem h3] at h4
    have := List.length_pos_of_mem h3
    omega
theorem in10 {k : Nat} (hk : k < 1024) : inb (nI k) (lenI 10) = true := vp_inb (vp_in_nI (N := 1024) hk (by omega))
def hsh (P : Int32) : Nat := (P * (-1640531535 : Int32)).toBitVec.toNat / 2 ^ 22
theorem hsh_lt (P : Int32) : hsh P < 1024 := by
  unfold hsh
  have : (P * (-1640531535 : Int32)).toBitVec.toNat < 2 ^ 32 := BitVec.isLt _
  omega
theorem hsh_eq (P : Int32) : ((P * (-1640531535 : Int32)).toUInt32 >>> ((22 : Int32).toUInt32 &&& Int32.toUInt32 31)).toInt32 = nI (hsh P) := by
  refine b_ext fun i hi => ?_
  have h := hsh_lt P
  rw [show ((22 : Int32)) = nI 22 from rfl, b_ushr 22 (by omega), bt_nI (by omega)]
  unfold hsh bt
  rw [Nat.testBit_div_two_pow, BitVec.getLsbD, Nat.add_comm]
def pr (P : Int32) (k : Nat) : Nat := (hsh P + k) % 1024
theorem pr_lt (P : Int32) (k : Nat) : pr P k < 1024 := Nat.mod_lt _ (by omega)
theorem pr_all (P : Int32) {i : Nat} (hi : i < 1024) : ∃ k, k < 1024 ∧ pr P k = i := by
  have := hsh_lt P
  refine ⟨(i + 1024 - hsh P) % 1024, Nat.mod_lt _ (by omega), ?_⟩
  unfold pr
  omega
theorem add1_sub (P : Int32) : P + 1 - 1 = P := by
  rw [Int32.sub_eq_add_neg, Int32.add_assoc, Int32.add_right_neg, Int32.add_zero]
theorem sub1_add (P : Int32) : P - 1 + 1 = P := by
  rw [Int32.sub_eq_add_neg, Int32.add_assoc, Int32.add_left_neg, Int32.add_zero]
/-- each key stands at the first place of its walk that was free -/
def KI (M : Mm) : Prop := ∀ i, i < 1024 → M.1 (1, 7) i ≠ 0 → ∃ k, k < 1024 ∧ i = pr (M.1 (1, 7) i - 1) k ∧ ∀ k', k' < k → M.1 (1, 7) (pr (M.1 (1, 7) i - 1) k') ≠ 0 ∧ M.1 (1, 7) (pr (M.1 (1, 7) i - 1) k') ≠ M.1 (1, 7) i
theorem KI_inj {M : Mm} (h : KI M) {i j : Nat} (hi : i < 1024) (hj : j < 1024) (h0 : M.1 (1, 7) i ≠ 0) (he : M.1 (1, 7) i = M.1 (1, 7) j) : i = j := by
  obtain ⟨k, -, a1, a2⟩ := h i hi h0
  obtain ⟨k', -, b1, b2⟩ := h j hj (by rw [← he]; exact h0)
  rw [← he] at b1 b2
  rcases Nat.lt_trichotomy k k' with hlt | heq | hgt
  · have := (b2 k hlt).2
    rw [← a1] at this
    exact absurd rfl this
  · rw [a1, b1, heq]
  · have := (a2 k' hgt).2
    rw [← b1, ← he] at this
    exact absurd rfl this
theorem KI_cell {M M' : Mm} (h : KI M) (he : M'.1 (1, 7) = M.1 (1, 7)) : KI M' := by
  unfold KI
  rw [he]
  exact h
theorem slotOf_eq {M : Mm} (hK : KI M) {Ls : List Int32} (hL : Ls.length ≤ 1023) (hin : ∀ i, i < 1024 → M.1 (1, 7) i ≠ 0 → M.1 (1, 7) i - 1 ∈ Ls) {P : Int32} (hP : P + 1 ≠ 0) : ∃ i M', i < 1024 ∧ m_R_slotOf P M = some (nI i, M') ∧ KI M' ∧ M'.1 (1, 7) i = P + 1 ∧ (∀ i', i' ≠ i → M'.1 (1, 7) i' = M.1 (1, 7) i') ∧ (M.1 (1, 7) i = 0 ∨ M.1 (1, 7) i = P + 1) ∧ Frm (fun z => z = (1, 7)) M M' := by
  have h : ∃ r, lp (b_R_slotOf_10 P) (nI (hsh P), 0, M) = some r ∧ ∃ i M', r = .inr (nI i, M') ∧ i < 1024 ∧ KI M' ∧ M'.1 (1, 7) i = P + 1 ∧ (∀ i', i' ≠ i → M'.1 (1, 7) i' = M.1 (1, 7) i') ∧ (M.1 (1, 7) i = 0 ∨ M.1 (1, 7) i = P + 1) ∧ Frm (fun z => z = (1, 7)) M M' := by
    refine lp_for 1024 (fun k s => s.2.1 = nI k ∧ s.1 = nI (pr P k) ∧ s.2.2 = M ∧ ∀ k', k' < k → M.1 (1, 7) (pr P k') ≠ 0 ∧ M.1 (1, 7) (pr P k') ≠ P + 1) _ (fun k s hk h => ?_) (fun s h => ?_) (k := 0) ⟨rfl, ?_, rfl, fun k' hk' => by omega⟩ (by omega) (by omega)
    · obtain ⟨x, i0, A⟩ := s
      obtain ⟨rfl, h2, h3, h4⟩ := h
      have h2 : x = nI (pr P k) := h2
      have h3 : A = M := h3
      subst h2 h3
      have hp := pr_lt P k
      have hb : inb (nI (pr P k)) (lenI 7) = true := vp_inb (vp_in_nI (N := 1024) hp (by omega))
      have hnx : (nI (pr P k) + 1) &&& 1023 = nI (pr P (k + 1)) := by
        rw [nI_inc, pk_andN (by omega) 10 (by decide)]
        congr 1
        unfold pr
        omega
      unfold b_R_slotOf_10
      show (∃ s', (if (1024 : Int32) ≤ nI k then _ else _) = _ ∧ _) ∨ (∃ r, (if (1024 : Int32) ≤ nI k then _ else _) = _ ∧ _)
      rw [if_lt (x := 1024) (B := 1024) hk (by omega) rfl, ck_of hb, nI_clamp (by omega)]
      by_cases h0 : A.1 (1, 7) (pr P k) = 0
      · rw [if_pos h0, ck_of hb, bd_some, ck_of hb, if_pos (uI_at _ _ _ _)]
        refine Or.inr ⟨_, rfl, pr P k, uI A (1, 7) (pr P k) (P + 1), rfl, hp, ?_, uI_at _ _ _ _, fun i' hi' => uI_off _ _ _ hi', Or.inl h0, Frm.uI A _ _ rfl⟩
        intro i hi hne
        by_cases e : i = pr P k
        · subst e
          rw [uI_at, add1_sub]
          refine ⟨k, hk, rfl, fun k' hk' => ?_⟩
          have h5 := h4 k' hk'
          have hne2 : pr P k' ≠ pr P k := fun e => h5.1 (by rw [e]; exact h0)
          rw [uI_off _ _ _ hne2]
          exact h5
        · rw [uI_off _ _ _ e] at hne ⊢
          obtain ⟨k2, a1, a2, a3⟩ := hK i hi hne
          refine ⟨k2, a1, a2, fun k' hk' => ?_⟩
          have h5 := a3 k' hk'
          have hne2 : pr (A.1 (1, 7) i - 1) k' ≠ pr P k := fun e => h5.1 (by rw [e]; exact h0)
          rw [uI_off _ _ _ hne2]
          exact h5
      · rw [if_neg h0, ck_of hb]
        by_cases h1 : A.1 (1, 7) (pr P k) = P + 1
        · rw [if_pos h1]
          exact Or.inr ⟨_, rfl, pr P k, A, rfl, hp, hK, h1, fun _ _ => rfl, Or.inr h1, Frm.rfl⟩
        · rw [if_neg h1]
          refine Or.inl ⟨_, rfl, nI_inc k, hnx, rfl, fun k' hk' => ?_⟩
          by_cases e : k' = k
          · subst e; exact ⟨h0, h1⟩
          · exact h4 k' (by omega)
    · exfalso
      obtain ⟨x, i0, A⟩ := s
      obtain ⟨-, -, h3, h4⟩ := h
      have all : ∀ i, i < 1024 → M.1 (1, 7) i ≠ 0 := fun i hi => by
        obtain ⟨k, hk, e⟩ := pr_all P hi
        rw [← e]; exact (h4 k hk).1
      have := pigeon 1024 (fun i => M.1 (1, 7) i - 1) Ls (fun i hi => hin i hi (all i hi)) (fun i j hij hj he => by
        have he : M.1 (1, 7) i - 1 = M.1 (1, 7) j - 1 := he
        have e2 : M.1 (1, 7) i = M.1 (1, 7) j := by rw [← sub1_add (M.1 (1, 7) i), he, sub1_add]
        have := KI_inj hK (by omega) hj (all i (by omega)) e2
        omega)
      omega
    · have := hsh_lt P
      show nI (hsh P) = nI ((hsh P + 0) % 1024)
      rw [Nat.add_zero, Nat.mod_eq_of_lt this]
  obtain ⟨r, h1, i, M', rfl, h2, h3⟩ := h
  refine ⟨i, M', h2, ?_, h3⟩
  unfold m_R_slotOf
  rw [bd_some, hsh_eq, h1, bd_some]
  rfl
/-- the queue holds the slots with fresh ways, each once -/
def QI (M : Mm) : Prop := ∃ (qs len : Nat) (f : Nat → Nat), qs < 1024 ∧ M.1 (5, 0) 4 = nI qs ∧ M.1 (5, 0) 5 = nI len ∧ (∀ r, r < len → f r < 1024 ∧ M.1 (1, 10) ((qs + r) % 1024) = nI (f r)) ∧ (∀ r r', r < r' → r' < len → f r ≠ f r') ∧ ∀ i, i < 1024 → (M.1 (1, 9) i ≠ 0 ↔ ∃ r, r < len ∧ f r = i)
theorem QI_of {M M' : Mm} (h : QI M) (h1 : M'.1 (5, 0) = M.1 (5, 0)) (h2 : M'.1 (1, 10) = M.1 (1, 10)) (h3 : ∀ i, i < 1024 → (M'.1 (1, 9) i ≠ 0 ↔ M.1 (1, 9) i ≠ 0)) : QI M' := by
  obtain ⟨qs, len, f, a1, a2, a3, a4, a5, a6⟩ := h
  refine ⟨qs, len, f, a1, by rw [h1]; exact a2, by rw [h1]; exact a3, by rw [h2]; exact a4, a5, fun i hi => (h3 i hi).trans (a6 i hi)⟩
theorem cells_ne {a b c d : Nat} (h : ¬ (a = c ∧ b = d)) : ¬ ((a, b) = ((c, d) : Nat × Nat)) := fun e => h ⟨congrArg Prod.fst e, congrArg Prod.snd e⟩
theorem enq_eq {M : Mm} (h : QI M) {i : Nat} (hi : i < 1024) (h0 : M.1 (1, 9) i = 0) : ∃ M', m_R_enqueue (nI i) M = some M' ∧ (∀ a : Int32, a ≠ 0 → QI (uI M' (1, 9) i a)) ∧ Frm (fun z => z = (1, 10) ∨ z = (5, 0)) M M' := by
  obtain ⟨qs, len, f, a1, a2, a3, a4, a5, a6⟩ := h
  have hlen : len + 1 ≤ 1024 := by
    have := pigeon (len + 1) (fun r => if r = len then i else f r) (List.range 1024) (fun r hr => by
      by_cases e : r = len
      · simp only [e, if_true]; exact List.mem_range.mpr hi
      · simp only [e, if_false]; exact List.mem_range.mpr (a4 r (by omega)).1) (fun r r' h1 h2 => by
      by_cases e : r' = len
      · have : r ≠ len := by omega
        simp only [e, this, if_true, if_false]
        intro e2
        exact ((a6 i hi).mpr ⟨r, by omega, e2⟩) h0
      · have : r ≠ len := by omega
        simp only [e, this, if_false]
        exact a5 r r' h1 (by omega))
    simpa using this
  have hpos : ((M.1 (5, 0) 4 + M.1 (5, 0) 5) &&& 1023) = nI ((qs + len) % 1024) := by
    rw [a2, a3, nI_add, pk_andN (by omega) 10 (by decide)]
  have hm : (qs + len) % 1024 < 1024 := Nat.mod_lt _ (by omega)
  refine ⟨uI (uI M (1, 10) ((qs + len) % 1024) (nI i)) (5, 0) 5 (nI (len + 1)), ?_, fun a ha => ?_, (Frm.uI M _ _ (Or.inl rfl)).trans (Frm.uI _ _ _ (Or.inr rfl))⟩
  · unfold m_R_enqueue
    rw [hpos, ck_of (in10 hm), nI_clamp (by omega), bd_some]
    rw [uI_ne M _ _ (cells_ne (by omega)), a3, nI_inc, bd_some]
  · refine ⟨qs, len + 1, fun r => if r = len then i else f r, a1, ?_, ?_, fun r hr => ?_, fun r r' h1 h2 => ?_, fun k hk => ?_⟩
    · rw [uI_ne _ _ _ (cells_ne (by omega)), uI_off _ _ _ (by omega), uI_ne _ _ _ (cells_ne (by omega))]
      exact a2
    · rw [uI_ne _ _ _ (cells_ne (by omega)), uI_at]
    · rw [uI_ne _ _ _ (cells_ne (by omega)), uI_ne _ _ _ (cells_ne (by omega))]
      by_cases e : r = len
      · simp only [e, if_true]
        exact ⟨hi, uI_at _ _ _ _⟩
      · simp only [e, if_false]
        rw [uI_off _ _ _ (by omega)]
        exact a4 r (by omega)
    · by_cases e : r' = len
      · have : r ≠ len := by omega
        simp only [e, this, if_true, if_false]
        intro e2
        exact ((a6 i hi).mpr ⟨r, by omega, e2⟩) h0
      · have : r ≠ len := by omega
        simp only [e, this, if_false]
        exact a5 r r' h1 (by omega)
    · by_cases e : k = i
      · subst e
        rw [uI_at]
        exact ⟨fun _ => ⟨len, by omega, by simp⟩, fun _ => ha⟩
      · rw [uI_off _ _ _ e, uI_ne _ _ _ (cells_ne (by omega)), uI_ne _ _ _ (cells_ne (by omega)), a6 k hk]
        constructor
        · rintro ⟨r, h1, h2⟩
          exact ⟨r, by omega, by show (if r = len then i else f r) = k; rw [if_neg (by omega)]; exact h2⟩
        · rintro ⟨r, h1, h2⟩
          have h2 : (if r = len then i else f r) = k := h2
          by_cases e2 : r = len
          · rw [if_pos e2] at h2
            exact absurd h2.symm e
          · rw [if_neg e2] at h2
            exact ⟨r, by omega, h2⟩
theorem next_eq {M : Mm} (h : QI M) (hq : ¬ M.1 (5, 0) 5 ≤ 0) : ∃ i M', i < 1024 ∧ m_R_nextQueued M = some (nI i, M') ∧ M.1 (1, 9) i ≠ 0 ∧ QI (uI M' (1, 9) i 0) ∧ Frm (fun z => z = (5, 0)) M M' := by
  obtain ⟨qs, len, f, a1, a2, a3, a4, a5, a6⟩ := h
  have hl : 0 < len := by
    cases len with
    | zero => rw [a3] at hq; exact absurd (Int32.le_refl _) hq
    | succ len => omega
  obtain ⟨b1, b2⟩ := a4 0 hl
  rw [Nat.add_zero, Nat.mod_eq_of_lt a1] at b2
  refine ⟨f 0, uI (uI M (5, 0) 4 (nI ((qs + 1) % 1024))) (5, 0) 5 (nI (len - 1)), b1, ?_, (a6 _ b1).mpr ⟨0, hl, rfl⟩, ?_, Frm.trans (S := fun z => z = (5, 0)) (Frm.uI M _ _ rfl) (Frm.uI _ _ _ rfl)⟩
  · unfold m_R_nextQueued
    rw [a2, ck_of (in10 a1), bd_some, nI_clamp (by omega), b2, nI_inc, pk_andN (by omega) 10 (by decide), bd_some, uI_off _ _ _ (by omega), a3, show len = (len - 1) + 1 by omega, nI_pred, bd_some]
    rfl
  · refine ⟨(qs + 1) % 1024, len - 1, fun r => f (r + 1), Nat.mod_lt _ (by omega), ?_, ?_, fun r hr => ?_, fun r r' h1 h2 => a5 _ _ (by omega) (by omega), fun k hk => ?_⟩
    · rw [uI_ne _ _ _ (cells_ne (by omega)), uI_off _ _ _ (by omega), uI_at]
    · rw [uI_ne _ _ _ (cells_ne (by omega)), uI_at]
    · rw [uI_ne _ _ _ (cells_ne (by omega)), uI_ne _ _ _ (cells_ne (by omega)), uI_ne _ _ _ (cells_ne (by omega))]
      have := a4 (r + 1) (by omega)
      rw [show ((qs + 1) % 1024 + r) % 1024 = (qs + (r + 1)) % 1024 by omega]
      exact this
    · by_cases e : k = f 0
      · subst e
        rw [uI_at]
        constructor
        · intro h; exact absurd rfl h
        · rintro ⟨r, h1, h2⟩
          exact absurd h2.symm (a5 0 (r + 1) (by omega) (by omega))
      · rw [uI_off _ _ _ e, uI_ne _ _ _ (cells_ne (by omega)), uI_ne _ _ _ (cells_ne (by omega)), a6 k hk]
        constructor
        · rintro ⟨r, h1, h2⟩
          have : r ≠ 0 := fun e0 => by subst e0; exact e h2.symm
          refine ⟨r - 1, by omega, ?_⟩
          show f (r - 1 + 1) = k
          rw [show r - 1 + 1 = r by omega]; exact h2
        · rintro ⟨r, h1, h2⟩
          exact ⟨r + 1, by omega, h2⟩
def uO (z : Nat × Nat) : Prop := z = (1, 7) ∨ z = (1, 8) ∨ z = (1, 9) ∨ z = (1, 10) ∨ z = (5, 0)
theorem or_ne0 {x y : Int32} (h : y ≠ 0) : x ||| y ≠ 0 := fun e => h (b_eq0.mpr fun i hi => by
  have := b_eq0.mp e i hi
  rw [b_or, Bool.or_eq_false_iff] at this
  exact this.2)
theorem or_ne0' {x y : Int32} (h : x ≠ 0) : x ||| y ≠ 0 := fun e => h (b_eq0.mpr fun i hi => by
  have := b_eq0.mp e i hi
  rw [b_or, Bool.or_eq_false_iff] at this
  exact this.1)
theorem offer_eq {M : Mm} (hK : KI M) (hQ : QI M) {Ls : List Int32} (hL : Ls.length ≤ 1023) (hin : ∀ i, i < 1024 → M.1 (1, 7) i ≠ 0 → M.1 (1, 7) i - 1 ∈ Ls) {P : Int32} (hP : P + 1 ≠ 0) (W : Int32) : ∃ i a M', i < 1024 ∧ m_R_offer P W M = some (a, M') ∧ KI M' ∧ QI M' ∧ M'.1 (1, 7) i = P + 1 ∧ (∀ i', i' ≠ i → M'.1 (1, 7) i' = M.1 (1, 7) i') ∧ (M.1 (1, 7) i = 0 ∨ M.1 (1, 7) i = P + 1) ∧ (∀ q, q < 32 → bt a q = (bt W q && !bt (M.1 (1, 8) i) q)) ∧ M'.1 (1, 8) i = M.1 (1, 8) i ||| a ∧ (∀ i', i' ≠ i → M'.1 (1, 8) i' = M.1 (1, 8) i') ∧ M'.1 (1, 9) i = M.1 (1, 9) i ||| a ∧ (∀ i', i' ≠ i → M'.1 (1, 9) i' = M.1 (1, 9) i') ∧ Frm uO M M' := by
  obtain ⟨i, A, hi, h1, h2, h3, h4, h5, h6⟩ := slotOf_eq hK hL hin hP
  have hA8 : A.1 (1, 8) = M.1 (1, 8) := h6.1 _ (cells_ne (by omega))
  have hA9 : A.1 (1, 9) = M.1 (1, 9) := h6.1 _ (cells_ne (by omega))
  have hA10 : A.1 (1, 10) = M.1 (1, 10) := h6.1 _ (cells_ne (by omega))
  have hA5 : A.1 (5, 0) = M.1 (5, 0) := h6.1 _ (cells_ne (by omega))
  have hQA : QI A := QI_of hQ hA5 hA10 fun k _ => by rw [hA9]
  have hFA : Frm uO M A := h6.mono fun z hz => Or.inl hz
  have hb8 : inb (nI i) (lenI 8) = true := vp_inb (vp_in_nI (N := 1024) hi (by omega))
  have hb9 : inb (nI i) (lenI 9) = true := vp_inb (vp_in_nI (N := 1024) hi (by omega))
  have hbit : ∀ q, q < 32 → bt (W &&& (M.1 (1, 8) i ^^^ (-1 : Int32))) q = (bt W q && !bt (M.1 (1, 8) i) q) := fun q hq => by
    rw [b_and, b_xor, b_m1 q hq]
    cases bt (M.1 (1, 8) i) q <;> rfl
  unfold m_R_offer
  rw [h1, bd_some]
  show ∃ i_1 a M', _ ∧ (if 0 ≤ nI i then _ else _) = _ ∧ _
  rw [if_pos (nI_pos' (by omega)), ck_of hb8, nI_clamp (by omega), hA8, bd_some]
  by_cases h0 : (W &&& (M.1 (1, 8) i ^^^ (-1 : Int32))) = 0
  · rw [if_pos h0]
    have z : ∀ x : Int32, x ||| (W &&& (M.1 (1, 8) i ^^^ (-1 : Int32))) = x := fun x => by
      rw [h0]
      exact b_ext fun q _ => by rw [b_or, b_0, Bool.or_false]
    exact ⟨i, _, A, hi, rfl, h2, hQA, h3, h4, h5, hbit, by rw [z, hA8], fun i' _ => by rw [hA8], by rw [z, hA9], fun i' _ => by rw [hA9], hFA⟩
  · rw [if_neg h0, ck_of hb8, ck_of hb8, bd_some, ck_of hb9]
    generalize ha : (W &&& (M.1 (1, 8) i ^^^ (-1 : Int32))) = a at h0 hbit ⊢
    have e89 : (uI A (1, 8) i (M.1 (1, 8) i ||| a)).1 (1, 9) = M.1 (1, 9) := by rw [uI_ne _ _ _ (cells_ne (by omega)), hA9]
    have hQ2 : QI (uI A (1, 8) i (M.1 (1, 8) i ||| a)) := QI_of hQA (uI_ne _ _ _ (cells_ne (by omega))) (uI_ne _ _ _ (cells_ne (by omega))) fun k _ => by rw [e89, hA9]
    have hF2 : Frm uO M (uI A (1, 8) i (M.1 (1, 8) i ||| a)) := hFA.trans (Frm.uI _ _ _ (Or.inr (Or.inl rfl)))
    rw [e89]
    by_cases hz : M.1 (1, 9) i = 0
    · rw [if_pos hz]
      obtain ⟨B, c1, c2, c3⟩ := enq_eq hQ2 hi (by rw [e89]; exact hz)
      have eB9 : B.1 (1, 9) = M.1 (1, 9) := by rw [c3.1 _ (by rintro (h | h) <;> cases h), e89]
      rw [c1, bd_some, ck_of hb9, ck_of hb9, eB9, bd_some]
      have eB : ∀ c, c ≠ (1, 9) → c ≠ (1, 10) → c ≠ (5, 0) → (uI B (1, 9) i (M.1 (1, 9) i ||| a)).1 c = (uI A (1, 8) i (M.1 (1, 8) i ||| a)).1 c := fun c n1 n2 n3 => by
        rw [uI_ne _ _ _ n1]
        exact c3.1 c (by rintro (h | h); exact n2 h; exact n3 h)
      have e7 : (uI B (1, 9) i (M.1 (1, 9) i ||| a)).1 (1, 7) = A.1 (1, 7) := by
        rw [eB _ (cells_ne (by omega)) (cells_ne (by omega)) (cells_ne (by omega)), uI_ne _ _ _ (cells_ne (by omega))]
      refine ⟨i, a, _, hi, rfl, KI_cell h2 e7, c2 _ (or_ne0 h0), by rw [e7]; exact h3, fun i' hi' => by rw [e7]; exact h4 i' hi', h5, hbit, ?_, fun i' hi' => ?_, uI_at _ _ _ _, fun i' hi' => by rw [uI_off _ _ _ hi', eB9], ?_⟩
      · rw [eB _ (cells_ne (by omega)) (cells_ne (by omega)) (cells_ne (by omega)), uI_at]
      · rw [eB _ (cells_ne (by omega)) (cells_ne (by omega)) (cells_ne (by omega)), uI_off _ _ _ hi', hA8]
      · exact (hF2.trans (c3.mono fun z hz => by rcases hz with h | h; exact Or.inr (Or.inr (Or.inr (Or.inl h))); exact Or.inr (Or.inr (Or.inr (Or.inr h))))).trans (Frm.uI _ _ _ (Or.inr (Or.inr (Or.inl rfl))))
    · rw [if_neg hz, ck_of hb9, ck_of hb9, bd_some]
      have e7 : (uI (uI A (1, 8) i (M.1 (1, 8) i ||| a)) (1, 9) i (M.1 (1, 9) i ||| a)).1 (1, 7) = A.1 (1, 7) := by
        rw [uI_ne _ _ _ (cells_ne (by omega)), uI_ne _ _ _ (cells_ne (by omega))]
      refine ⟨i, a, _, hi, rfl, KI_cell h2 e7, ?_, by rw [e7]; exact h3, fun i' hi' => by rw [e7]; exact h4 i' hi', h5, hbit, ?_, fun i' hi' => ?_, uI_at _ _ _ _, fun i' hi' => by rw [uI_off _ _ _ hi', e89], hF2.trans (Frm.uI _ _ _ (Or.inr (Or.inr (Or.inl rfl))))⟩
      · refine QI_of hQ2 (uI_ne _ _ _ (cells_ne (by omega))) (uI_ne _ _ _ (cells_ne (by omega))) fun k _ => ?_
        by_cases e : k = i
        · subst e
          rw [uI_at, e89]
          exact ⟨fun _ => hz, fun _ => or_ne0 h0⟩
        · rw [uI_off _ _ _ e]
      · rw [uI_ne _ _ _ (cells_ne (by omega)), uI_at]
      · rw [uI_ne _ _ _ (cells_ne (by omega)), uI_off _ _ _ hi', hA8]
