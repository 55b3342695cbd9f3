/-! the class's becomePart: what is left when only the kept states stay -/
def cnt (K p : Nat) : Nat := (List.range p).countP (fun i => K.testBit i)
theorem cnt_succ (K p : Nat) : cnt K (p + 1) = cnt K p + (if K.testBit p = true then 1 else 0) := by
  unfold cnt
  rw [List.range_succ, List.countP_append]
  simp
theorem cnt_le (K p : Nat) : cnt K p ≤ p := by
  have := List.countP_le_length (p := fun i => K.testBit i) (l := List.range p)
  simpa [cnt] using this
theorem cnt_mono (K : Nat) {p q : Nat} (h : p ≤ q) : cnt K p ≤ cnt K q := by
  induction q with
  | zero => have : p = 0 := by omega
            subst this; exact Nat.le_refl _
  | succ q ih =>
    by_cases e : p = q + 1
    · subst e; exact Nat.le_refl _
    · have := ih (by omega)
      rw [cnt_succ]; omega
theorem cnt_lt (K : Nat) {p q : Nat} (h : p < q) (hp : K.testBit p = true) : cnt K p < cnt K q := by
  have h1 := cnt_succ K p
  rw [if_pos hp] at h1
  have h2 := cnt_mono K (show p + 1 ≤ q by omega)
  omega
theorem low4 {x : Int32} (h : ∀ i, i < 32 → bt x i = true → i < 4) : ∃ K, K < 16 ∧ x = nI K := by
  refine ⟨x.toBitVec.toNat % 16, Nat.mod_lt _ (by omega), ?_⟩
  rw [← and15]
  refine b_ext fun i hi => ?_
  rw [b_and, b_15]
  cases hb : bt x i
  · rfl
  · simp [h i hi hb]
def pkN (s K : Nat) : Nat := (List.range 4).foldl (fun a q => if s.testBit q = true then a ||| 2 ^ (cnt K q) else a) 0
theorem place_eq : ∀ K, K < 16 → ∀ p, p < 4 → m_A_placeAmong (nI K) (nI p) = some (nI (cnt K p)) := by decide +kernel
theorem packed_eq : ∀ K, K < 16 → ∀ s, s < 16 → m_A_packed (nI s) (nI K) = some (nI (pkN s K)) := by decide +kernel
theorem pkN_lt : ∀ K, K < 16 → ∀ s, s < 16 → pkN s K < 16 := by decide +kernel
theorem pkN_bit : ∀ K, K < 16 → ∀ s, s < 16 → ∀ y, y < 32 → (pkN (s &&& K) K).testBit y = (List.range 4).any (fun q => s.testBit q && (K.testBit q && decide (cnt K q = y))) := by decide +kernel
theorem pkN_iff {K s y : Nat} (hK : K < 16) (hs : s < 16) (hy : y < 32) : (pkN (s &&& K) K).testBit y = true ↔ ∃ q, q < 4 ∧ s.testBit q = true ∧ K.testBit q = true ∧ cnt K q = y := by
  rw [pkN_bit K hK s hs y hy, List.any_eq_true]
  simp only [List.mem_range, Bool.and_eq_true, decide_eq_true_eq]
def trG (K : Nat) (g : Nat → Bool) : Nat → Bool := fun x => (List.range 4).any fun p => K.testBit p && (decide (cnt K p = x) && g p)
def trE (K : Nat) (e : Ed) : Ed := fun l x y => (List.range 4).any fun p => (List.range 4).any fun q => K.testBit p && (K.testBit q && (decide (cnt K p = x) && (decide (cnt K q = y) && e l p q)))
theorem trG_iff (K : Nat) (g : Nat → Bool) (x : Nat) : trG K g x = true ↔ ∃ p, p < 4 ∧ K.testBit p = true ∧ cnt K p = x ∧ g p = true := by
  simp only [trG, List.any_eq_true, List.mem_range, Bool.and_eq_true, decide_eq_true_eq]
theorem trE_iff (K : Nat) (e : Ed) (l x y : Nat) : trE K e l x y = true ↔ ∃ p q, p < 4 ∧ q < 4 ∧ K.testBit p = true ∧ K.testBit q = true ∧ cnt K p = x ∧ cnt K q = y ∧ e l p q = true := by
  simp only [trE, List.any_eq_true, List.mem_range, Bool.and_eq_true, decide_eq_true_eq]
  constructor
  · rintro ⟨p, hp, q, hq, a1, a2, a3, a4, a5⟩
    exact ⟨p, q, hp, hq, a1, a2, a3, a4, a5⟩
  · rintro ⟨p, q, hp, hq, a1, a2, a3, a4, a5⟩
    exact ⟨p, hp, q, hq, a1, a2, a3, a4, a5⟩
theorem trim_AOK {n K : Nat} {g : Nat → Bool} {e : Ed} (hA : AOK n g e) : AOK (cnt K n) (trG K g) (trE K e) := by
  have hn := hA.1
  refine ⟨Nat.le_trans (cnt_le K n) hn, fun q hq => ?_, fun l p q h => ?_⟩
  · obtain ⟨p, -, a1, a2, a3⟩ := (trG_iff K g q).mp hq
    rw [← a2]
    exact cnt_lt K (hA.2.1 p a3) a1
  · obtain ⟨x, y, -, -, a1, a2, a3, a4, a5⟩ := (trE_iff K e l p q).mp h
    obtain ⟨b1, b2, b3⟩ := hA.2.2 _ _ _ a5
    exact ⟨b1, by rw [← a3]; exact cnt_lt K b2 a1, by rw [← a4]; exact cnt_lt K b3 a2⟩
/-- the edges after the letters below l, and the sources below k of letter l -/
def trS (K : Nat) (e : Ed) (l k : Nat) (E : Ed) : Prop := ∀ l' x y, E l' x y = true ↔ ∃ f q, K.testBit f = true ∧ K.testBit q = true ∧ cnt K f = x ∧ cnt K q = y ∧ e l' f q = true ∧ (l' < l ∨ (l' = l ∧ f < k))
theorem becomePart_eq {M : Mm} {i j n K : Nat} {g : Nat → Bool} {e : Ed} (hi : i < 7) (hj : j < 7) (hij : i ≠ j) (hC : CP M i n g e) (hA : AOK n g e) (hK : K < 16) : ∃ M', m_A_becomePart j i (nI K) M = some M' ∧ CP M' j (cnt K n) (trG K g) (trE K e) ∧ Frm (uA j) M M' := by
  have hn := hA.1
  have other : ∀ {A : Mm}, Frm (uA j) M A → CP A i n g e := fun {A} hF => CP_frm hC hF (by rintro (h | h) <;> cases h; exact hij rfl) (by rintro (h | h) <;> cases h; exact hij rfl)
  obtain ⟨M1, w1, w2, w3⟩ := wipe_eq hj M
  have h1 : ∃ r, lp (b_A_becomePart_6 j i (nI K)) (0, M1) = some r ∧ (CP r.2 j (cnt K n) (trG K g) noE ∧ Frm (uA j) M r.2) := by
    refine lp_for n (fun k s => s.1 = nI k ∧ (∃ G, CP s.2 j (cnt K k) G noE ∧ ∀ x, G x = true ↔ ∃ p, p < k ∧ K.testBit p = true ∧ cnt K p = x ∧ g p = true) ∧ Frm (uA j) M s.2) _ (fun k s hk h => ?_) (fun s h => ?_) (k := 0) ⟨rfl, ⟨noG, w2, fun x => ⟨fun h => (by cases h), fun ⟨p, hp, _⟩ => by omega⟩⟩, w3⟩ (by omega) (by omega)
    · obtain ⟨i0, A⟩ := s
      obtain ⟨rfl, ⟨G, h2, h4⟩, h3⟩ := h
      have h2 : CP A j (cnt K k) G noE := h2
      have hCi := other h3
      unfold b_A_becomePart_6
      show (∃ s', (if A.1 (0, i) 0 ≤ nI k then _ else _) = _ ∧ _) ∨ (∃ r, (if A.1 (0, i) 0 ≤ nI k then _ else _) = _ ∧ _)
      rw [if_lt hk (by omega) hCi.1]
      have hcs := cnt_succ K k
      cases hb : K.testBit k
      · rw [if_pos (by rw [b_tst _ (by omega), bt_nI (by omega), hb])]
        rw [hb] at hcs
        refine Or.inl ⟨(nI k + 1, A), rfl, nI_inc k, ⟨G, by rw [hcs]; exact h2, fun x => ?_⟩, h3⟩
        rw [h4 x]
        constructor
        · rintro ⟨p, a1, a2⟩; exact ⟨p, by omega, a2⟩
        · rintro ⟨p, a1, a2, a3⟩
          by_cases ep : p = k
          · subst ep; rw [hb] at a2; cases a2
          · exact ⟨p, by omega, a2, a3⟩
      · rw [if_neg (by rw [b_tst _ (by omega), bt_nI (by omega), hb]; simp)]
        rw [hb] at hcs
        have hck := cnt_le K k
        obtain ⟨B, b1, b2, b3⟩ := addState_eq h2 (by omega) (g k)
        show (∃ s', bd (m_A_isGood i (nI k) A) _ = _ ∧ _) ∨ _
        rw [isGood_eq hCi (by omega), bd_some]
        show (∃ s', bd (m_A_addState j (g k) A) _ = _ ∧ _) ∨ _
        rw [b1, bd_some]
        refine Or.inl ⟨(nI k + 1, B), rfl, nI_inc k, ⟨_, by rw [hcs]; exact b2, fun x => ?_⟩, h3.trans b3⟩
        simp only [addG, Bool.or_eq_true, Bool.and_eq_true, decide_eq_true_eq]
        rw [h4 x]
        constructor
        · rintro (⟨p, a1, a2⟩ | ⟨a1, a2⟩)
          · exact ⟨p, by omega, a2⟩
          · exact ⟨k, by omega, hb, a1.symm, a2⟩
        · rintro ⟨p, a1, a2, a3, a4⟩
          by_cases ep : p = k
          · subst ep; exact Or.inr ⟨a3.symm, a4⟩
          · exact Or.inl ⟨p, by omega, a2, a3, a4⟩
    · obtain ⟨i0, A⟩ := s
      obtain ⟨rfl, ⟨G, h2, h4⟩, h3⟩ := h
      refine ⟨(nI n, A), ?_, CP_ext h2 (fun q hq => ?_) (fun _ _ _ => rfl), h3⟩
      · unfold b_A_becomePart_6
        show (if A.1 (0, i) 0 ≤ nI n then _ else _) = _
        rw [if_ge (Nat.le_refl _) (by omega) (other h3).1]
      · rw [Bool.eq_iff_iff, h4 q, trG_iff]
        constructor
        · rintro ⟨p, a1, a2⟩; exact ⟨p, by omega, a2⟩
        · rintro ⟨p, a1, a2, a3, a4⟩; exact ⟨p, hA.2.1 p a4, a2, a3, a4⟩
  obtain ⟨r1, h1, hr1, hF1⟩ := h1
  have hcn : cnt K n ≤ 4 := Nat.le_trans (cnt_le K n) hn
  have inner : ∀ (l : Nat), l < 2 → ∀ (A : Mm), (∃ E, CP A j (cnt K n) (trG K g) E ∧ trS K e l 0 E) → Frm (uA j) M A → ∃ r, lp (b_A_becomePart_48 j i (nI K) (nI l)) (0, A) = some r ∧ ((∃ E, CP r.2 j (cnt K n) (trG K g) E ∧ trS K e (l + 1) 0 E) ∧ Frm (uA j) M r.2) := by
    intro l hl A hE hFA
    refine lp_for n (fun k s => s.1 = nI k ∧ (∃ E, CP s.2 j (cnt K n) (trG K g) E ∧ trS K e l k E) ∧ Frm (uA j) M s.2) _ (fun k s hk h => ?_) (fun s h => ?_) (k := 0) ⟨rfl, hE, hFA⟩ (by omega) (by omega)
    · obtain ⟨i0, B⟩ := s
      obtain ⟨rfl, ⟨E, h2, h4⟩, h3⟩ := h
      have h2 : CP B j (cnt K n) (trG K g) E := h2
      have hCi := other h3
      unfold b_A_becomePart_48
      show (∃ s', (if B.1 (0, i) 0 ≤ nI k then _ else _) = _ ∧ _) ∨ (∃ r, (if B.1 (0, i) 0 ≤ nI k then _ else _) = _ ∧ _)
      rw [if_lt hk (by omega) hCi.1]
      cases hb : K.testBit k
      · rw [if_pos (by rw [b_tst _ (by omega), bt_nI (by omega), hb])]
        refine Or.inl ⟨(nI k + 1, B), rfl, nI_inc k, ⟨E, h2, fun l' x y => ?_⟩, h3⟩
        rw [h4 l' x y]
        constructor
        · rintro ⟨f, q, a1, a2, a3, a4, a5, a6⟩
          exact ⟨f, q, a1, a2, a3, a4, a5, by omega⟩
        · rintro ⟨f, q, a1, a2, a3, a4, a5, a6⟩
          have : f ≠ k := by rintro rfl; rw [hb] at a1; cases a1
          exact ⟨f, q, a1, a2, a3, a4, a5, by omega⟩
      · rw [if_neg (by rw [b_tst _ (by omega), bt_nI (by omega), hb]; simp)]
        obtain ⟨v, v1, v2⟩ := follow1_eq hi hCi (p := k) (by omega) hl
        have hv4 : ∀ q, q < 32 → bt v q = true → q < 4 := fun q hq h => by
          rw [v2 q hq] at h
          have := (hA.2.2 _ _ _ h).2.2; omega
        obtain ⟨s, hs, rfl⟩ := low4 hv4
        show (∃ s', bd (m_A_followersOf i ((1 : Int32) <<< (nI k &&& 31)) (nI l) B) _ = _ ∧ _) ∨ _
        rw [v1, bd_some, place_eq K hK k (by omega), bd_some]
        have hand : nI s &&& nI K = nI (s &&& K) := by
          refine b_ext fun i hi => ?_
          have : s &&& K ≤ s := Nat.and_le_left
          rw [b_and, bt_nI (by omega), bt_nI (by omega), bt_nI (by omega), Nat.testBit_and]
        have hsK : s &&& K < 16 := Nat.lt_of_le_of_lt Nat.and_le_left hs
        rw [hand, packed_eq K hK _ hsK, bd_some]
        have hck := cnt_le K k
        obtain ⟨C, c1, c2, c3⟩ := joinAll_eq hj hcn h2 hl (f := cnt K k) (by omega) (nI (pkN (s &&& K) K))
        show (∃ s', bd (m_A_joinAll j (nI (cnt K k)) (nI l) (nI (pkN (s &&& K) K)) B) _ = _ ∧ _) ∨ _
        rw [c1, bd_some]
        refine Or.inl ⟨(nI k + 1, C), rfl, nI_inc k, ⟨_, c2, fun l' x y => ?_⟩, h3.trans c3⟩
        have hpl := pkN_lt K hK _ hsK
        rw [addRow_iff, h4 l' x y]
        constructor
        · rintro (⟨f, q, a1, a2, a3, a4, a5, a6⟩ | ⟨rfl, rfl, a1, a2⟩)
          · exact ⟨f, q, a1, a2, a3, a4, a5, by omega⟩
          · rw [bt_nI (by omega)] at a2
            obtain ⟨q, b1, b2, b3, b4⟩ := (pkN_iff hK hs (by omega)).mp a2
            refine ⟨k, q, hb, b3, rfl, b4, ?_, Or.inr ⟨rfl, by omega⟩⟩
            rw [← v2 q (by omega), bt_nI (by omega)]; exact b2
        · rintro ⟨f, q, a1, a2, a3, a4, a5, a6⟩
          by_cases ef : f = k ∧ l' = l
          · obtain ⟨rfl, rfl⟩ := ef
            have hq := (hA.2.2 _ _ _ a5).2.2
            refine Or.inr ⟨rfl, a3.symm, by rw [← a4]; exact cnt_lt K hq a2, ?_⟩
            have hy : y < 32 := by
              have := cnt_le K q; omega
            rw [bt_nI (by omega)]
            refine (pkN_iff hK hs hy).mpr ⟨q, by omega, ?_, a2, a4⟩
            rw [← bt_nI (by omega), v2 q (by omega)]; exact a5
          · exact Or.inl ⟨f, q, a1, a2, a3, a4, a5, by omega⟩
    · obtain ⟨i0, B⟩ := s
      obtain ⟨rfl, ⟨E, h2, h4⟩, h3⟩ := h
      refine ⟨(nI n, B), ?_, ⟨E, h2, fun l' x y => ?_⟩, h3⟩
      · unfold b_A_becomePart_48
        show (if B.1 (0, i) 0 ≤ nI n then _ else _) = _
        rw [if_ge (Nat.le_refl _) (by omega) (other h3).1]
      · rw [h4 l' x y]
        constructor
        · rintro ⟨f, q, a1, a2, a3, a4, a5, a6⟩
          exact ⟨f, q, a1, a2, a3, a4, a5, by omega⟩
        · rintro ⟨f, q, a1, a2, a3, a4, a5, a6⟩
          have hf := (hA.2.2 _ _ _ a5).2.1
          exact ⟨f, q, a1, a2, a3, a4, a5, by omega⟩
  have h2 : ∃ r, lp (b_A_becomePart_40 j i (nI K)) (0, r1.2) = some r ∧ ((∃ E, CP r.2 j (cnt K n) (trG K g) E ∧ trS K e 2 0 E) ∧ Frm (uA j) M r.2) := by
    refine lp_for 2 (fun k s => s.1 = nI k ∧ (∃ E, CP s.2 j (cnt K n) (trG K g) E ∧ trS K e k 0 E) ∧ Frm (uA j) M s.2) _ (fun k s hk h => ?_) (fun s h => ?_) (k := 0) ⟨rfl, ⟨noE, hr1, fun l' p q => ?_⟩, hF1⟩ (by omega) (by omega)
    · obtain ⟨i0, B⟩ := s
      obtain ⟨rfl, h2, h3⟩ := h
      obtain ⟨r, a1, a2, a3⟩ := inner k hk B h2 h3
      refine Or.inl ⟨(nI k + 1, r.2), ?_, nI_inc k, a2, a3⟩
      unfold b_A_becomePart_40
      show (if (2 : Int32) ≤ nI k then _ else _) = _
      rw [if_lt (x := 2) (B := 2) hk (by omega) rfl]
      show bd (lp (b_A_becomePart_48 j i (nI K) (nI k)) (0, B)) _ = _
      rw [a1, bd_some]
    · obtain ⟨i0, B⟩ := s
      obtain ⟨rfl, h2, h3⟩ := h
      refine ⟨(nI 2, B), ?_, h2, h3⟩
      unfold b_A_becomePart_40
      show (if (2 : Int32) ≤ nI 2 then _ else _) = _
      rw [if_ge (x := 2) (B := 2) (Nat.le_refl _) (by omega) rfl]
    · constructor
      · intro h; cases h
      · rintro ⟨f, q, a1, a2, a3, a4, a5, a6⟩; omega
  obtain ⟨r2, h3, ⟨E, h4, h5⟩, h6⟩ := h2
  refine ⟨r2.2, ?_, CP_ext h4 (fun _ _ => rfl) (fun l p q => ?_), h6⟩
  · unfold m_A_becomePart
    rw [w1, bd_some, h1, bd_some, h3, bd_some]
  · rw [Bool.eq_iff_iff, h5 l p q, trE_iff]
    constructor
    · rintro ⟨f, q, a1, a2, a3, a4, a5, a6⟩
      obtain ⟨b1, b2, b3⟩ := hA.2.2 _ _ _ a5
      exact ⟨f, q, by omega, by omega, a1, a2, a3, a4, a5⟩
    · rintro ⟨f, q, -, -, a1, a2, a3, a4, a5⟩
      exact ⟨f, q, a1, a2, a3, a4, a5, Or.inl (hA.2.2 _ _ _ a5).1⟩
