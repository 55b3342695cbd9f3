/-! what holds between two calls; the calls that change an automaton -/
theorem sml {α β γ : Type} (a : α) (g : β → Option γ) (f : α → Option γ) : smr (.inl a) g f = f a := rfl
theorem smi {α β γ : Type} (b : β) (g : β → Option γ) (f : α → Option γ) : smr (.inr b) g f = g b := rfl
def IA (M : Mm) (n : Nat → Nat) (g : Nat → Nat → Bool) (e : Nat → Ed) : Prop := ∀ j, j < 6 → AOK (n j) (g j) (e j) ∧ CP M j (n j) (g j) (e j) ∧ RP M j (n j) (g j) (e j)
def FO (M : Mm) : Prop := (M.1 (6, 0) 2 = 0 ↔ M.1 (8, 0) 4 = 0) ∧ (M.1 (6, 0) 2 ≠ 0 → M.1 (6, 0) 3 = M.1 (1, 19) 0 ∧ M.1 (6, 0) 4 = M.1 (1, 19) 1 ∧ M.1 (6, 0) 5 = M.1 (1, 19) 2 ∧ M.1 (6, 0) 6 = M.1 (1, 19) 3)
def Inv (M : Mm) : Prop := (∃ n g e, IA M n g e) ∧ FO M
def OkI (k b : Int32) (M : Mm) : Prop := M.1 (8, 0) 0 = k ∧ (k = 0 → M.2 (2, 3) 0 = b.toInt64) ∧ Inv M
def OkB (k : Int32) (b : Bool) (M : Mm) : Prop := M.1 (8, 0) 0 = k ∧ (k = 0 → M.2 (2, 3) 0 = if bI b = 0 then 0 else 1) ∧ Inv M
theorem IA_of {M M' : Mm} {n : Nat → Nat} {g : Nat → Nat → Bool} {e : Nat → Ed} (h : IA M n g e) (hc : ∀ j, j < 6 → M'.1 (0, j) = M.1 (0, j) ∧ M'.1 (1, j) = M.1 (1, j)) (h6 : M'.1 (1, 16) = M.1 (1, 16)) (h7 : M'.1 (1, 17) = M.1 (1, 17)) (h8 : M'.1 (1, 18) = M.1 (1, 18)) : IA M' n g e := fun j hj => by
  obtain ⟨a1, a2, a3⟩ := h j hj
  exact ⟨a1, CP_of a2 (hc j hj).1 (hc j hj).2, RP_of a3 h6 h7 h8⟩
theorem FO_of {M M' : Mm} (h : FO M) (h6 : M'.1 (6, 0) = M.1 (6, 0)) (h8 : M'.1 (8, 0) 4 = M.1 (8, 0) 4) (h9 : M'.1 (1, 19) = M.1 (1, 19)) : FO M' := by
  unfold FO
  rw [h6, h8, h9]
  exact h
theorem Inv_th {M : Mm} (h : Inv M) (k : Int32) : Inv (uI M (8, 0) 0 k) := by
  obtain ⟨⟨n, g, e, h1⟩, h2⟩ := h
  have ne : ∀ c d : Nat, c ≠ 8 → (uI M (8, 0) 0 k).1 (c, d) = M.1 (c, d) := fun c d hc => uI_ne M _ _ (cells_ne (by omega))
  exact ⟨⟨n, g, e, IA_of h1 (fun j _ => ⟨ne _ _ (by omega), ne _ _ (by omega)⟩) (ne _ _ (by omega)) (ne _ _ (by omega)) (ne _ _ (by omega))⟩, FO_of h2 (ne _ _ (by omega)) (uI_off _ _ _ (by omega)) (ne _ _ (by omega))⟩
theorem Inv_out {M : Mm} (h : Inv M) (v : Int64) : Inv (uL M (2, 3) 0 v) := h
theorem cl0 : (0 : Int32).toNatClampNeg = 0 := by decide
theorem inL3 : inb (0 : Int32) (lenL 3) = true := by decide
theorem bIt : ¬ bI true = 0 := by decide
theorem bIf : bI false = 0 := rfl
/-- out of range -/
def Bad (x : Int32) (n : Nat) : Prop := x < 0 ∨ nI n ≤ x
theorem ixc (x : Int32) {n : Nat} (hn : n < 2 ^ 31) : Bad x n ∨ ∃ k, k < n ∧ x = nI k := by
  rcases pk_ix x hn with h | h | h
  · exact Or.inl (Or.inl h)
  · exact Or.inl (Or.inr h)
  · exact Or.inr h
theorem out_bad {x : Int32} {n : Nat} (h : Bad x n) : m_M_out x (nI n) = some true := by
  unfold m_M_out
  by_cases h0 : x < 0
  · rw [if_pos h0]
  · rw [if_neg h0, if_neg (Int32.not_lt.mpr (h.resolve_left h0))]
theorem out_ok {k n : Nat} (hk : k < n) (hn : n < 2 ^ 31) : m_M_out (nI k) (nI n) = some false := by
  unfold m_M_out
  rw [if_neg (nI_pos (by omega)), if_pos (nI_lt hk hn)]
theorem out6_bad {x : Int32} (h : Bad x 6) : m_M_out x 6 = some true := out_bad h
theorem out6_ok {k : Nat} (hk : k < 6) : m_M_out (nI k) 6 = some false := out_ok (n := 6) hk (by decide)
theorem at_bad {x : Int32} (h : Bad x 6) (M : Mm) : m_D_automatonAt x M = some (.inr (1, M)) := by
  unfold m_D_automatonAt
  by_cases h0 : x < 0
  · rw [if_pos h0]
  · rw [if_neg h0, if_neg (Int32.not_lt.mpr (show (6 : Int32) ≤ x from h.resolve_left h0))]
theorem at_ok {k : Nat} (hk : k < 6) (M : Mm) : m_D_automatonAt (nI k) M = some (.inl k) := by
  unfold m_D_automatonAt
  rw [if_neg (nI_pos (by omega)), if_pos (show nI k < (6 : Int32) from nI_lt (b := 6) hk (by decide)), ck_of (vp_inb (vp_in_nI hk (by omega))), nI_clamp (by omega)]
theorem has_bad {M : Mm} {j n : Nat} {x : Int32} (h : Bad x n) (hs : M.1 (0, j) 0 = nI n) : m_A_hasState j x M = some false := by
  unfold m_A_hasState
  by_cases h0 : x < 0
  · rw [if_pos h0]
  · rw [if_neg h0, hs, if_pos (h.resolve_left h0)]
theorem has_ok {M : Mm} {j n k : Nat} (hk : k < n) (hn : n < 2 ^ 31) (hs : M.1 (0, j) 0 = nI n) : m_A_hasState j (nI k) M = some true := by
  unfold m_A_hasState
  rw [if_neg (nI_pos (by omega)), hs, if_neg (nI_ge hk hn)]
theorem dec7 {j : Nat} (hj : j < 6) : decide (j < 7) = true := decide_eq_true (by omega)
/-- an automaton changed on both sides alike -/
theorem Inv_upd {M A D : Mm} {n : Nat → Nat} {g : Nat → Nat → Bool} {e : Nat → Ed} {j n' : Nat} {g' : Nat → Bool} {e' : Ed} {v : Int64} {k : Int32} (hj : j < 6) (hI : IA M n g e) (hO : FO M) (hA' : AOK n' g' e') (hC : CP A j n' g' e') (hF : Frm (fun z => uA j z ∨ uA 6 z) M A) (hR : RP D j n' g' e') (hRF : RF j (uI (uL A (2, 3) 0 v) (8, 0) 0 k) D) : Inv D := by
  have c1 : ∀ c d : Nat, c ≠ 8 → (c ≠ 1 ∨ (d ≠ 16 ∧ d ≠ 17 ∧ d ≠ 18)) → D.1 (c, d) = A.1 (c, d) := fun c d h1 h2 => by
    rw [hRF.1 _ (cells_ne (by omega)) (cells_ne (by omega)) (cells_ne (by omega)), uI_ne _ _ _ (cells_ne (by omega))]
    rfl
  have c2 : ∀ c d : Nat, ¬ (c = 0 ∧ (d = j ∨ d = 6)) → ¬ (c = 1 ∧ (d = j ∨ d = 6)) → A.1 (c, d) = M.1 (c, d) := fun c d h1 h2 => hF.1 _ (by
    rintro ((h | h) | (h | h)) <;> (have q1 := congrArg Prod.fst h; have q2 := congrArg Prod.snd h; simp only at q1 q2; omega))
  refine ⟨⟨fun i => if i = j then n' else n i, fun i => if i = j then g' else g i, fun i => if i = j then e' else e i, fun i hi => ?_⟩, FO_of hO ?_ ?_ ?_⟩
  · by_cases e1 : i = j
    · simp only [e1, if_true]
      exact ⟨hA', CP_of hC (c1 _ _ (by omega) (by omega)) (c1 _ _ (by omega) (by omega)), hR⟩
    · simp only [e1, if_false]
      obtain ⟨a1, a2, a3⟩ := hI i hi
      refine ⟨a1, CP_of a2 ?_ ?_, RP_RF (RP_of a3 ?_ ?_ ?_) hRF e1 a1.1⟩
      · rw [c1 _ _ (by omega) (by omega), c2 _ _ (by omega) (by omega)]
      · rw [c1 _ _ (by omega) (by omega), c2 _ _ (by omega) (by omega)]
      · rw [uI_ne _ _ _ (cells_ne (by omega))]; exact c2 _ _ (by omega) (by omega)
      · rw [uI_ne _ _ _ (cells_ne (by omega))]; exact c2 _ _ (by omega) (by omega)
      · rw [uI_ne _ _ _ (cells_ne (by omega))]; exact c2 _ _ (by omega) (by omega)
  · rw [c1 _ _ (by omega) (by omega), c2 _ _ (by omega) (by omega)]
  · rw [hRF.1 _ (cells_ne (by omega)) (cells_ne (by omega)) (cells_ne (by omega)), uI_off _ _ _ (by omega)]
    show A.1 (8, 0) 4 = M.1 (8, 0) 4
    rw [c2 _ _ (by omega) (by omega)]
  · rw [c1 _ _ (by omega) (by omega), c2 _ _ (by omega) (by omega)]
theorem RF_out {j : Nat} {A D : Mm} {v : Int64} {k : Int32} (h : RF j (uI (uL A (2, 3) 0 v) (8, 0) 0 k) D) : D.1 (8, 0) 0 = k ∧ D.2 (2, 3) 0 = v := by
  refine ⟨?_, ?_⟩
  · rw [h.1 _ (cells_ne (by omega)) (cells_ne (by omega)) (cells_ne (by omega)), uI_at]
  · rw [h.2.1]
    show (uL A (2, 3) 0 v).2 (2, 3) 0 = v
    exact uL_at _ _ _ _
theorem RP_th {A : Mm} {i n : Nat} {g : Nat → Bool} {e : Ed} {v : Int64} {k : Int32} (h : RP A i n g e) : RP (uI (uL A (2, 3) 0 v) (8, 0) 0 k) i n g e := RP_of h (uI_ne _ _ _ (cells_ne (by omega))) (uI_ne _ _ _ (cells_ne (by omega))) (uI_ne _ _ _ (cells_ne (by omega)))
theorem RP_cls {M A : Mm} {j i n : Nat} {g : Nat → Bool} {e : Ed} (hj : j < 6) (hF : Frm (fun z => uA j z ∨ uA 6 z) M A) (h : RP M i n g e) : RP A i n g e := by
  have c2 : ∀ d : Nat, 16 ≤ d → A.1 (1, d) = M.1 (1, d) := fun d h1 => hF.1 _ (by
    rintro ((h | h) | (h | h)) <;> (have q1 := congrArg Prod.fst h; have q2 := congrArg Prod.snd h; simp only at q1 q2; omega))
  exact RP_of h (c2 _ (by omega)) (c2 _ (by omega)) (c2 _ (by omega))
/-! state -/
theorem AOK_add {n : Nat} {g : Nat → Bool} {e : Ed} (h : AOK n g e) (hn : n < 4) (b : Bool) : AOK (n + 1) (addG g n b) e := by
  refine ⟨by omega, fun q hq => ?_, fun l p q he => ?_⟩
  · simp only [addG, Bool.or_eq_true, Bool.and_eq_true, decide_eq_true_eq] at hq
    rcases hq with hq | hq
    · have := h.2.1 q hq; omega
    · omega
  · have := h.2.2 l p q he; omega
theorem s_state {M : Mm} (hI : Inv M) (x : Int32) (f : Bool) : ∃ k M1 b M2, m_L_state x f 3 M = some (k, M1) ∧ m_M_state x f M1 = some (b, M2) ∧ OkI k b M2 := by
  rcases ixc x (n := 6) (by omega) with hb | ⟨j, hj, rfl⟩
  · refine ⟨1, M, 0, uI M (8, 0) 0 1, ?_, ?_, uI_at _ _ _ _, fun h => absurd h (by decide), Inv_th hI 1⟩
    · unfold m_L_state m_D_state
      rw [at_bad hb, bd_some, smi, bd_some, smi, if_pos rfl]
    · unfold m_M_state
      rw [out6_bad hb, bd_some, if_neg bIt, bd_some, if_neg (by rw [uI_at]; decide)]
  · obtain ⟨⟨n, g, e, h1⟩, h2⟩ := hI
    obtain ⟨a1, a2, a3⟩ := h1 j hj
    have hn := a1.1
    by_cases h4 : n j < 4
    · obtain ⟨A, b1, b2, b3⟩ := addState_eq a2 h4 f
      have b3' : Frm (fun z => uA j z ∨ uA 6 z) M A := b3.mono fun z hz => Or.inl hz
      obtain ⟨D, d1, d2, d3⟩ := add_eq (M := uI (uL A (2, 3) 0 (nI (n j)).toInt64) (8, 0) 0 0) (RP_th (RP_cls hj b3' a3)) hj h4 (by
        cases hg : g j (n j)
        · rfl
        · have := a1.2.1 _ hg; omega) (fun l q => by
        cases he : e j l (n j) q
        · rfl
        · have := a1.2.2 _ _ _ he; omega) f
      obtain ⟨o1, o2⟩ := RF_out d3
      refine ⟨0, uL A (2, 3) 0 (nI (n j)).toInt64, nI (n j), D, ?_, ?_, o1, fun _ => o2, Inv_upd hj h1 h2 (AOK_add a1 h4 f) b2 b3' d2 d3⟩
      · unfold m_L_state m_D_state
        rw [at_ok hj, bd_some, sml, ck_of (dec7 hj), a2.1, if_pos (show nI (n j) < (4 : Int32) from nI_lt (b := 4) h4 (by decide)), b1, bd_some, bd_some, sml, ck_of inL3, bd_some, cl0]
      · unfold m_M_state
        have e18 : (uL A (2, 3) 0 (nI (n j)).toInt64).1 (1, 18) j = nI (n j) := (RP_cls hj b3' a3).1
        rw [out6_ok hj, bd_some, if_pos bIf, ck_of (sz_in hj), nI_clamp (by omega), e18, if_neg (fun h => by have := (nI_eq (a := n j) (b := 4) (by omega) (by omega)).mp h; omega), bd_some, if_pos (by rw [uI_at]; exact Int32.le_refl _), d1, bd_some, ck_of (sz_in hj), d2.1, nI_pred]
    · have e4 : n j = 4 := by omega
      refine ⟨2, M, 0, uI M (8, 0) 0 2, ?_, ?_, uI_at _ _ _ _, fun h => absurd h (by decide), Inv_th ⟨⟨n, g, e, h1⟩, h2⟩ 2⟩
      · unfold m_L_state m_D_state
        rw [at_ok hj, bd_some, sml, ck_of (dec7 hj), a2.1, e4, if_neg (show ¬ nI 4 < (4 : Int32) from nI_nlt (b := 4) (Nat.le_refl 4) (by decide)), bd_some, smi, if_neg (show ¬ (2 : Nat) = 1 by decide), if_pos rfl]
      · unfold m_M_state
        rw [out6_ok hj, bd_some, if_pos bIf, ck_of (sz_in hj), nI_clamp (by omega), a3.1, e4, if_pos (show nI 4 = (4 : Int32) from rfl), bd_some, if_neg (by rw [uI_at]; decide)]
/-! edge -/
theorem AOK_edge {n l f t : Nat} {g : Nat → Bool} {e : Ed} (h : AOK n g e) (hl : l < 2) (hf : f < n) (ht : t < n) : AOK n g (addE e l f t) := by
  refine ⟨h.1, h.2.1, fun l' p q he => ?_⟩
  simp only [addE, Bool.or_eq_true, Bool.and_eq_true, decide_eq_true_eq] at he
  rcases he with he | ⟨rfl, rfl, rfl⟩
  · exact h.2.2 _ _ _ he
  · exact ⟨hl, hf, ht⟩
theorem joins_eq {M : Mm} {j n : Nat} {g : Nat → Bool} {e : Ed} (hj : j < 7) (hC : CP M j n g e) {p l t : Nat} (hp : p < 4) (hl : l < 2) (ht : t < 32) : m_A_joins j (nI p) (nI l) (nI t) M = some (e l p t) := by
  obtain ⟨v, v1, v2⟩ := follow1_eq hj hC hp hl
  unfold m_A_joins
  rw [v1, bd_some]
  have := v2 t ht
  cases h : e l p t
  · rw [if_pos (by rw [b_tst _ ht, this, h])]
  · rw [if_neg (by rw [b_tst _ ht, this, h]; simp)]
/-- places of an edge: all in range, or refused on both sides -/
theorem places {M : Mm} {n : Nat → Nat} {g : Nat → Nat → Bool} {e : Nat → Ed} (hI : IA M n g e) (x f l t : Int32) : (m_D_automatonWithPlaces x f l t M = some (.inr (1, M)) ∧ m_M_isEdge x f l t M = some false) ∨ ∃ j f' l' t', j < 6 ∧ f' < n j ∧ l' < 2 ∧ t' < n j ∧ x = nI j ∧ f = nI f' ∧ l = nI l' ∧ t = nI t' ∧ m_D_automatonWithPlaces x f l t M = some (.inl j) ∧ m_M_isEdge x f l t M = some true := by
  unfold m_D_automatonWithPlaces m_M_isEdge
  rcases ixc x (n := 6) (by omega) with hb | ⟨j, hj, rfl⟩
  · refine Or.inl ⟨?_, ?_⟩
    · rw [at_bad hb, bd_some, smi]
    · rw [out6_bad hb, bd_some, if_neg bIt]
  · obtain ⟨a1, a2, a3⟩ := hI j hj
    have hn := a1.1
    rw [at_ok hj, bd_some, sml, ck_of (dec7 hj), out6_ok hj, bd_some, if_pos bIf, ck_of (sz_in hj), nI_clamp (by omega), a3.1]
    rcases ixc f (n := n j) (by omega) with hb | ⟨f', hf, rfl⟩
    · refine Or.inl ⟨?_, ?_⟩
      · rw [has_bad hb a2.1, bd_some, if_pos bIf]
      · rw [out_bad hb, bd_some, if_neg bIt]
    · rw [has_ok hf (by omega) a2.1, bd_some, if_neg bIt, out_ok hf (by omega), bd_some, if_pos bIf, ck_of (sz_in hj)]
      rcases ixc t (n := n j) (by omega) with hb | ⟨t', ht, rfl⟩
      · refine Or.inl ⟨?_, ?_⟩
        · rw [has_bad hb a2.1, bd_some, if_pos bIf]
        · rw [out_bad hb, bd_some, if_neg bIt]
      · rw [has_ok ht (by omega) a2.1, bd_some, if_neg bIt, out_ok ht (by omega), bd_some, if_pos bIf]
        rcases ixc l (n := 2) (by omega) with hb | ⟨l', hl, rfl⟩
        · refine Or.inl ⟨?_, ?_⟩
          · by_cases h0 : l < 0
            · rw [if_pos h0]
            · rw [if_neg h0, if_neg (Int32.not_lt.mpr (show (2 : Int32) ≤ l from hb.resolve_left h0))]
          · rw [show m_M_out l 2 = some true from out_bad (n := 2) hb, bd_some, if_neg bIt]
        · refine Or.inr ⟨j, f', l', t', hj, hf, hl, ht, rfl, rfl, rfl, rfl, ?_, ?_⟩
          · rw [if_neg (nI_pos (by omega)), if_pos (show nI l' < (2 : Int32) from nI_lt (b := 2) hl (by decide))]
          · rw [show m_M_out (nI l') 2 = some false from out_ok (n := 2) hl (by decide), bd_some, if_pos bIf]
theorem s_edge {M : Mm} (hI : Inv M) (x f l t : Int32) : ∃ k M1 b M2, m_L_edge x f l t 3 M = some (k, M1) ∧ m_M_edge x f l t M1 = some (b, M2) ∧ OkB k b M2 := by
  obtain ⟨⟨n, g, e, h1⟩, h2⟩ := hI
  rcases places h1 x f l t with ⟨p1, p2⟩ | ⟨j, f', l', t', hj, hf, hl, ht, rfl, rfl, rfl, rfl, p1, p2⟩
  · refine ⟨1, M, false, uI M (8, 0) 0 1, ?_, ?_, uI_at _ _ _ _, fun h => absurd h (by decide), Inv_th ⟨⟨n, g, e, h1⟩, h2⟩ 1⟩
    · unfold m_L_edge m_D_edge
      rw [p1, bd_some, smi, bd_some, smi, if_pos rfl]
    · unfold m_M_edge
      rw [p2, bd_some, if_pos bIf, bd_some, if_neg (by rw [uI_at]; decide)]
  · obtain ⟨a1, a2, a3⟩ := h1 j hj
    have hn := a1.1
    obtain ⟨A, b1, b2, b3⟩ := join_eq (show j < 7 by omega) a2 hl (show f' < 4 by omega) (show t' < 4 by omega)
    have b3' : Frm (fun z => uA j z ∨ uA 6 z) M A := b3.mono fun z hz => Or.inl hz
    have hRA := RP_cls hj b3' a3
    have hjn := joins_eq (show j < 7 by omega) a2 (show f' < 4 by omega) hl (show t' < 32 by omega)
    have main : ∀ v : Int64, (uI (uL A (2, 3) 0 v) (8, 0) 0 0).1 (1, 16) (8 * j + 4 * l' + f') = A.1 (1, 16) (8 * j + 4 * l' + f') ∧ ∃ D, D = uI (uI (uL A (2, 3) 0 v) (8, 0) 0 0) (1, 16) (8 * j + 4 * l' + f') (A.1 (1, 16) (8 * j + 4 * l' + f') ||| ((1 : Int32) <<< (nI t' &&& 31))) ∧ RF j (uI (uL A (2, 3) 0 v) (8, 0) 0 0) D ∧ Inv D := fun v => by
      refine ⟨by rw [uI_ne _ _ _ (cells_ne (by omega))]; rfl, _, rfl, RF.u16 _ _ (by omega), ?_⟩
      refine Inv_upd hj h1 h2 (AOK_edge a1 hl hf ht) b2 b3' ?_ (RF.u16 _ _ (by omega))
      refine RP_ext (RP_row (RP_th hRA) hn hl hf _) (fun _ _ => rfl) fun l2 p q hq hp hl2 => ?_
      unfold setRow addE
      by_cases ec : l2 = l' ∧ p = f'
      · obtain ⟨rfl, rfl⟩ := ec
        rw [if_pos ⟨rfl, rfl⟩, b_or, b_bit (by omega), hRA.2.2 _ hl _ hf q hq]
        simp
      · rw [if_neg ec]
        have : (decide (l2 = l') && (decide (p = f') && decide (q = t'))) = false := by
          by_cases e1 : l2 = l'
          · have : ¬ p = f' := fun e2 => ec ⟨e1, e2⟩
            simp [this]
          · simp [e1]
        rw [this, Bool.or_false]
    have hbt : bt (A.1 (1, 16) (8 * j + 4 * l' + f')) t' = e j l' f' t' := hRA.2.2 _ hl _ hf _ (by omega)
    have hx : inb (nI (8 * j + 4 * l' + f')) (lenI 16) = true := to_in hj hl (by omega)
    cases hE : e j l' f' t'
    · obtain ⟨m1, D, m2, m3, m4⟩ := main 1
      obtain ⟨o1, o2⟩ := RF_out m3
      refine ⟨0, uL A (2, 3) 0 1, true, D, ?_, ?_, o1, fun _ => by rw [o2]; rfl, m4⟩
      · unfold m_L_edge m_D_edge
        rw [p1, bd_some, sml, ck_of (dec7 hj), hjn, hE, bd_some, if_pos bIf, b1, bd_some, bd_some, sml, if_neg bIt, ck_of inL3, bd_some, cl0]
      · unfold m_M_edge
        have p2' : m_M_isEdge (nI j) (nI f') (nI l') (nI t') (uL A (2, 3) 0 1) = some true := by
          have e18 : (uL A (2, 3) 0 (1 : Int64)).1 (1, 18) j = nI (n j) := hRA.1
          unfold m_M_isEdge
          rw [out6_ok hj, bd_some, if_pos bIf, ck_of (sz_in hj), nI_clamp (by omega), e18, out_ok hf (by omega), bd_some, if_pos bIf, ck_of (sz_in hj), out_ok ht (by omega), bd_some, if_pos bIf, show m_M_out (nI l') 2 = some false from out_ok (n := 2) hl (by decide), bd_some, if_pos bIf]
        rw [p2', bd_some, if_neg bIt, bd_some, if_pos (by rw [uI_at]; exact Int32.le_refl _), bd_some, to_ix, ck_of hx, nI_clamp (by omega), m1, if_neg (by rw [b_tst1 _ (by omega), hbt, hE]; simp), ck_of hx, ck_of hx, bd_some, m2]
    · obtain ⟨m1, D, m2, m3, m4⟩ := main 0
      obtain ⟨o1, o2⟩ := RF_out m3
      refine ⟨0, uL A (2, 3) 0 0, false, D, ?_, ?_, o1, fun _ => by rw [o2]; rfl, m4⟩
      · unfold m_L_edge m_D_edge
        rw [p1, bd_some, sml, ck_of (dec7 hj), hjn, hE, bd_some, if_neg bIt, b1, bd_some, bd_some, sml, if_pos bIf, ck_of inL3, bd_some, cl0]
      · unfold m_M_edge
        have p2' : m_M_isEdge (nI j) (nI f') (nI l') (nI t') (uL A (2, 3) 0 0) = some true := by
          have e18 : (uL A (2, 3) 0 (0 : Int64)).1 (1, 18) j = nI (n j) := hRA.1
          unfold m_M_isEdge
          rw [out6_ok hj, bd_some, if_pos bIf, ck_of (sz_in hj), nI_clamp (by omega), e18, out_ok hf (by omega), bd_some, if_pos bIf, ck_of (sz_in hj), out_ok ht (by omega), bd_some, if_pos bIf, show m_M_out (nI l') 2 = some false from out_ok (n := 2) hl (by decide), bd_some, if_pos bIf]
        rw [p2', bd_some, if_neg bIt, bd_some, if_pos (by rw [uI_at]; exact Int32.le_refl _), bd_some, to_ix, ck_of hx, nI_clamp (by omega), m1, if_pos (by rw [b_tst1 _ (by omega), hbt, hE]), ck_of hx, ck_of hx, bd_some, m2]
/-! clear -/
theorem AOK_0 : AOK 0 noG noE := ⟨by omega, fun q h => (by cases h), fun l p q h => (by cases h)⟩
theorem RP_0 {M : Mm} {j : Nat} (h : M.1 (1, 18) j = 0) (g : Nat → Bool) (e : Ed) : RP M j 0 g e := ⟨h, fun q hq => by omega, fun l _ s hs => by omega⟩
theorem uL_id (M : Mm) (c : Nat × Nat) (k : Nat) : uL M c k (M.2 c k) = M := by
  refine Prod.ext rfl (funext fun c' => ?_)
  by_cases e : c' = c
  · subst e
    funext i
    by_cases e2 : i = k
    · subst e2; exact uL_at _ _ _ _
    · exact uL_off _ _ _ e2
  · exact uL_ne M k _ e
theorem s_clear {M : Mm} (hI : Inv M) (x : Int32) : ∃ k M1 M2, m_L_clear x M = some (k, M1) ∧ m_M_clear x M1 = some M2 ∧ M2.1 (8, 0) 0 = k ∧ Inv M2 := by
  rcases ixc x (n := 6) (by omega) with hb | ⟨j, hj, rfl⟩
  · refine ⟨1, M, uI M (8, 0) 0 1, ?_, ?_, uI_at _ _ _ _, Inv_th hI 1⟩
    · unfold m_L_clear m_D_clear
      rw [at_bad hb, bd_some, smi, bd_some, smi, if_pos rfl]
    · unfold m_M_clear
      rw [out6_bad hb, bd_some, if_neg bIt, bd_some, if_neg (by rw [uI_at]; decide)]
  · obtain ⟨⟨n, g, e, h1⟩, h2⟩ := hI
    obtain ⟨A, b1, b2, b3⟩ := wipe_eq (show j < 7 by omega) M
    have b3' : Frm (fun z => uA j z ∨ uA 6 z) M A := b3.mono fun z hz => Or.inl hz
    have hRF : RF j (uI (uL A (2, 3) 0 (A.2 (2, 3) 0)) (8, 0) 0 0) (uI (uI (uL A (2, 3) 0 (A.2 (2, 3) 0)) (8, 0) 0 0) (1, 18) j 0) := RF.u18 _ _
    have hInv := Inv_upd hj h1 h2 AOK_0 b2 b3' (RP_0 (uI_at _ _ _ _) noG noE) hRF
    obtain ⟨o1, o2⟩ := RF_out hRF
    rw [uL_id] at hInv o1
    refine ⟨0, A, uI (uI A (8, 0) 0 0) (1, 18) j 0, ?_, ?_, o1, hInv⟩
    · unfold m_L_clear m_D_clear
      rw [at_ok hj, bd_some, sml, ck_of (dec7 hj), b1, bd_some, bd_some, sml]
    · unfold m_M_clear
      rw [out6_ok hj, bd_some, if_pos bIf, bd_some, if_pos (by rw [uI_at]), ck_of (sz_in hj), nI_clamp (by omega), bd_some]
