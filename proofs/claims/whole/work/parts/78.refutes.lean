/-! the refuter's whole search -/
section REFS
variable {na nb : Nat} {ga gb : Nat → Bool} {ea eb : Ed} {o : Int32}
theorem QI_empty {M : Mm} (h : QI M) (hq : M.1 (5, 0) 5 ≤ 0) : ∀ i, i < 1024 → M.1 (1, 9) i = 0 := fun i hi => by
  obtain ⟨qs, len, f, a1, a2, a3, a4, a5, a6⟩ := h
  have hlen : len ≤ 1024 := by
    have := pigeon len f (List.range 1024) (fun r hr => List.mem_range.mpr (a4 r hr).1) a5
    simpa using this
  have h0 : len = 0 := by
    apply Classical.byContradiction
    intro hn
    rw [a3] at hq
    exact nI_nle (by omega) (by omega) hq
  apply Classical.byContradiction
  intro hn
  obtain ⟨r, hr, -⟩ := (a6 i hi).mp hn
  omega
def cP (M : Mm) : Nat := (List.range 32768).countP fun k => Dn M (k / 32) (k % 32)
theorem cP_le (M : Mm) : cP M ≤ 32768 := by
  have := List.countP_le_length (p := fun k => Dn M (k / 32) (k % 32)) (l := List.range 32768)
  simpa [cP] using this
theorem cP_eq {M M' : Mm} (h : ∀ i, i < 1024 → ∀ q, q < 32 → Dn M' i q = Dn M i q) : cP M' = cP M := by
  unfold cP
  refine List.countP_congr fun k hk => ?_
  have := List.mem_range.mp hk
  rw [h (k / 32) (by omega) (k % 32) (by omega)]
theorem cP_full {M : Mm} (h : 32768 ≤ cP M) : ∀ i, i < 1024 → M.1 (1, 9) i = 0 := fun i hi => by
  have h1 : cP M = (List.range 32768).length := by
    rw [List.length_range]
    exact Nat.le_antisymm (cP_le M) h
  have h2 := List.countP_eq_length.mp h1
  refine b_eq0.mpr fun q hq => ?_
  have h3 := h2 (32 * i + q) (List.mem_range.mpr (by omega))
  have h3 : Dn M ((32 * i + q) / 32) ((32 * i + q) % 32) = true := h3
  rw [show (32 * i + q) / 32 = i by omega, show (32 * i + q) % 32 = q by omega] at h3
  unfold Dn at h3
  rw [Bool.and_eq_true, Bool.not_eq_true'] at h3
  exact h3.2
def Bg (na nb : Nat) (ga gb : Nat → Bool) (ea eb : Ed) (o : Int32) (M : Mm) : Prop := ∀ P W, Pw nb gb eb (fun _ => True) [] P → Pw na ga ea (fun x => bt o x = true) [] W → ∀ q, q < 32 → bt W q = true → ∃ i, i < 1024 ∧ M.1 (1, 7) i = P + 1 ∧ bt (M.1 (1, 8) i) q = true
theorem Bg_mo {M M' : Mm} (hT : ∀ i, i < 1024 → M.1 (1, 7) i = 0 → M.1 (1, 8) i = 0) (h : Bg na nb ga gb ea eb o M) (hm : Mo M M') : Bg na nb ga gb ea eb o M' := fun P W h1 h2 q hq hb => by
  obtain ⟨i, a1, a2, a3⟩ := h P W h1 h2 q hq hb
  refine ⟨i, a1, ?_, hm.2 i a1 q a3⟩
  rcases hm.1 i a1 with e | e
  · rw [e, a2]
  · rw [hT i a1 e, b_0] at a3; cases a3
theorem refs_loop {M0 M : Mm} {i j : Nat} (hi : i < 6) (hj : j < 6) (hAa : AOK na ga ea) (hAb : AOK nb gb eb) (hnb : nb ≤ 3) (hCa : CP M i na ga ea) (hCb : CP M j nb gb eb) (hMt : MtOK ea eb nb M 11) (hT : TI na nb ga gb ea eb o M) (hCn : Cn nb ea eb M) (hPd : Pd na nb ga gb ea eb M 0 0 2) (hBg : Bg na nb ga gb ea eb o M) : ∃ r, lp (b_R_refutes_45 i j) (0, M) = some r ∧ ((∃ B, r = .inr (true, B) ∧ Frm uO M B ∧ Df ea ga eb gb) ∨ (∃ s B, r = .inl (s, B) ∧ Frm uO M B ∧ TI na nb ga gb ea eb o B ∧ Cn nb ea eb B ∧ Pd na nb ga gb ea eb B 0 0 2 ∧ Bg na nb ga gb ea eb o B ∧ ∀ k, k < 1024 → B.1 (1, 9) k = 0)) := by
  refine lp_for 32768 (fun k s => s.1 = nI k ∧ Frm uO M s.2 ∧ TI na nb ga gb ea eb o s.2 ∧ Cn nb ea eb s.2 ∧ Pd na nb ga gb ea eb s.2 0 0 2 ∧ Bg na nb ga gb ea eb o s.2 ∧ k ≤ cP s.2) _ (fun k s hk h => ?_) (fun s h => ?_) (k := 0) ⟨rfl, Frm.rfl, hT, hCn, hPd, hBg, Nat.zero_le _⟩ (by omega) (by omega)
  · obtain ⟨x, A⟩ := s
    obtain ⟨rfl, h2, h3, h4, h5, h6, h7⟩ := h
    have h2 : Frm uO M A := h2
    have h3 : TI na nb ga gb ea eb o A := h3
    have h4 : Cn nb ea eb A := h4
    have h5 : Pd na nb ga gb ea eb A 0 0 2 := h5
    have h6 : Bg na nb ga gb ea eb o A := h6
    have h7 : k ≤ cP A := h7
    unfold b_R_refutes_45
    dsimp only
    rw [if_lt (x := 32768) (B := 32768) hk (by omega) rfl]
    by_cases hq : A.1 (5, 0) 5 ≤ 0
    · rw [if_pos hq]
      exact Or.inr ⟨_, rfl, Or.inr ⟨_, A, rfl, h2, h3, h4, h5, h6, QI_empty h3.2.1 hq⟩⟩
    · rw [if_neg hq]
      obtain ⟨i0, B, hi0, b1, b2, b3, b4⟩ := next_eq h3.2.1 hq
      rw [b1, bd_some]
      dsimp only
      have bI7 : inb (nI i0) (lenI 7) = true := vp_inb (vp_in_nI (N := 1024) hi0 (by omega))
      have bI9 : inb (nI i0) (lenI 9) = true := vp_inb (vp_in_nI (N := 1024) hi0 (by omega))
      have e7 : B.1 (1, 7) = A.1 (1, 7) := b4.1 _ (cells_ne (by omega))
      have e8 : B.1 (1, 8) = A.1 (1, 8) := b4.1 _ (cells_ne (by omega))
      have e9 : B.1 (1, 9) = A.1 (1, 9) := b4.1 _ (cells_ne (by omega))
      rw [ck_of bI7, nI_clamp (by omega), bd_some, ck_of bI9, ck_of bI9, bd_some, e7, e9]
      have f7 : (uI B (1, 9) i0 0).1 (1, 7) = A.1 (1, 7) := by rw [uI_ne _ _ _ (cells_ne (by omega)), e7]
      have f8 : (uI B (1, 9) i0 0).1 (1, 8) = A.1 (1, 8) := by rw [uI_ne _ _ _ (cells_ne (by omega)), e8]
      have f9 : ∀ k, k ≠ i0 → (uI B (1, 9) i0 0).1 (1, 9) k = A.1 (1, 9) k := fun k hk => by rw [uI_off _ _ _ hk, e9]
      have f9' : (uI B (1, 9) i0 0).1 (1, 9) i0 = 0 := uI_at _ _ _ _
      have fF : Frm uO A (uI B (1, 9) i0 0) := (b4.mono fun z hz => Or.inr (Or.inr (Or.inr (Or.inr hz)))).trans (Frm.uI _ _ _ (Or.inr (Or.inr (Or.inl rfl))))
      generalize hD : uI B (1, 9) i0 0 = D at *
      obtain ⟨t1, t2, t3, t4, t5, t6⟩ := h3
      have hWS : ∀ q, q < 32 → bt (A.1 (1, 9) i0) q = true → bt (A.1 (1, 8) i0) q = true := fun q hq => t4 i0 hi0 q hq
      obtain ⟨q0, hq0, hb0⟩ : ∃ q, q < 32 ∧ bt (A.1 (1, 9) i0) q = true := by
        apply Classical.byContradiction
        intro hn
        exact b2 (b_eq0.mpr fun q hq => by
          cases hb : bt (A.1 (1, 9) i0) q
          · rfl
          · exact absurd ⟨q, hq, hb⟩ hn)
      have hK0 : A.1 (1, 7) i0 ≠ 0 := fun e => by
        have := hWS q0 hq0 hb0
        rw [t3 i0 hi0 e, b_0] at this; cases this
      have hTD : TI na nb ga gb ea eb o D := by
        refine ⟨KI_cell t1 f7, b3, by rw [f7, f8]; exact t3, fun k hk q hq h => ?_, by rw [f7]; exact t5, by rw [f7, f8]; exact t6⟩
        rw [f8]
        by_cases e : k = i0
        · subst e; rw [f9', b_0] at h; cases h
        · rw [f9 k e] at h; exact t4 k hk q hq h
      have hPD : Pd na nb ga gb ea eb D i0 (A.1 (1, 9) i0) 0 := fun i1 hi1 j1 hj1 e8 e9 l hl => by
        rw [f8] at e8
        have go : bt (A.1 (1, 9) i1) j1 = false → (i1 = i0 ∧ bt (A.1 (1, 9) i0) j1 = true ∧ 0 ≤ l) ∨ ∀ P', Lg nb gb eb l (D.1 (1, 7) i1 - 1) P' → ∀ j', j' < 32 → ls na ga ea l j1 j' → ∃ i', i' < 1024 ∧ D.1 (1, 7) i' = P' + 1 ∧ bt (D.1 (1, 8) i') j' = true := fun e9 => by
          rw [f7, f8]
          rcases h5 i1 hi1 j1 hj1 e8 e9 l hl with ⟨-, -, h⟩ | h
          · omega
          · exact Or.inr h
        by_cases e : i1 = i0
        · cases hb : bt (A.1 (1, 9) i1) j1
          · exact go hb
          · exact Or.inl ⟨e, by rw [← e]; exact hb, Nat.zero_le _⟩
        · exact go (by rw [← f9 i1 e]; exact e9)
      obtain ⟨r, r1, r2⟩ := turn_in (P := A.1 (1, 7) i0 - 1) (W := A.1 (1, 9) i0) hi hj hAa hAb hnb (CP_uO hi hCa (h2.trans fF)) (CP_uO hj hCb (h2.trans fF)) (MtOK_uO hMt (h2.trans fF)) hTD (by unfold Cn; rw [f7, f8]; exact h4) hPD hi0 (by rw [f7, sub1_add]) (by rw [sub1_add]; exact hK0) (by rw [f8]; exact hWS)
      rw [r1, bd_some]
      rcases r2 with ⟨E, rfl, g1, g2⟩ | ⟨s, E, rfl, g1, g2, g3, g4, g5, g6⟩
      · exact Or.inr ⟨_, rfl, Or.inl ⟨E, rfl, (h2.trans fF).trans g1, g2⟩⟩
      · refine Or.inl ⟨(nI k + 1, E), rfl, nI_inc k, (h2.trans fF).trans g1, g2, g3, ?_, ?_, ?_⟩
        · intro i1 hi1 j1 hj1 e8 e9 l hl
          rcases g4 i1 hi1 j1 hj1 e8 e9 l hl with ⟨-, -, h⟩ | h
          · omega
          · exact Or.inr h
        · refine Bg_mo (M := D) hTD.2.2.1 ?_ g5
          unfold Bg
          rw [f7, f8]
          exact h6
        · show k + 1 ≤ cP E
          rw [cP_eq g6]
          have : cP A < cP D := by
            refine countP_lt _ _ _ (fun k hk h => ?_) ⟨32 * i0 + q0, List.mem_range.mpr (by omega), ?_, ?_⟩
            · have hk := List.mem_range.mp hk
              have h : Dn A (k / 32) (k % 32) = true := h
              show Dn D (k / 32) (k % 32) = true
              unfold Dn at h ⊢
              rw [Bool.and_eq_true, Bool.not_eq_true'] at h ⊢
              rw [f8]
              refine ⟨h.1, ?_⟩
              by_cases e : k / 32 = i0
              · rw [e, f9', b_0]
              · rw [f9 _ e]; exact h.2
            · show Dn D ((32 * i0 + q0) / 32) ((32 * i0 + q0) % 32) = true
              rw [show (32 * i0 + q0) / 32 = i0 by omega, show (32 * i0 + q0) % 32 = q0 by omega]
              unfold Dn
              rw [f8, f9', b_0, hWS q0 hq0 hb0]; rfl
            · show Dn A ((32 * i0 + q0) / 32) ((32 * i0 + q0) % 32) = false
              rw [show (32 * i0 + q0) / 32 = i0 by omega, show (32 * i0 + q0) % 32 = q0 by omega]
              unfold Dn
              rw [hb0]; simp
          omega
  · obtain ⟨x, A⟩ := s
    obtain ⟨rfl, h2, h3, h4, h5, h6, h7⟩ := h
    refine ⟨.inl (nI 32768, A), ?_, Or.inr ⟨_, A, rfl, h2, h3, h4, h5, h6, cP_full h7⟩⟩
    unfold b_R_refutes_45
    dsimp only
    rw [if_ge (x := 32768) (B := 32768) (Nat.le_refl _) (by omega) rfl]
/-- a search that ended without an answer has met all words -/
theorem refs_all {M : Mm} {i j : Nat} (hi : i < 6) (hj : j < 6) (hAa : AOK na ga ea) (hAb : AOK nb gb eb) (hCa : CP M i na ga ea) (hCb : CP M j nb gb eb) (hPd : Pd na nb ga gb ea eb M 0 0 2) (hBg : Bg na nb ga gb ea eb o M) (hF : ∀ k, k < 1024 → M.1 (1, 9) k = 0) (v : List Nat) (hv : lets v) {P W : Int32} (hP : Pw nb gb eb (fun _ => True) v P) (hW : Pw na ga ea (fun x => bt o x = true) v W) {q : Nat} (hq : q < 32) (hb : bt W q = true) : ∃ i, i < 1024 ∧ M.1 (1, 7) i = P + 1 ∧ bt (M.1 (1, 8) i) q = true := by
  have key : ∀ (w u : List Nat), lets w → lets u → (∃ P, Pw nb gb eb (fun _ => True) u P) → (∃ W, Pw na ga ea (fun x => bt o x = true) u W) → (∀ P W, Pw nb gb eb (fun _ => True) u P → Pw na ga ea (fun x => bt o x = true) u W → ∀ q, q < 32 → bt W q = true → ∃ i, i < 1024 ∧ M.1 (1, 7) i = P + 1 ∧ bt (M.1 (1, 8) i) q = true) → ∀ P W, Pw nb gb eb (fun _ => True) (u ++ w) P → Pw na ga ea (fun x => bt o x = true) (u ++ w) W → ∀ q, q < 32 → bt W q = true → ∃ i, i < 1024 ∧ M.1 (1, 7) i = P + 1 ∧ bt (M.1 (1, 8) i) q = true := by
    intro w
    induction w with
    | nil => intro u _ _ _ _ h; rw [List.append_nil]; exact h
    | cons l w ih =>
      intro u hw hu hP hW h
      have hl := hw l (List.mem_cons_self ..)
      rw [show u ++ l :: w = (u ++ [l]) ++ w by simp]
      obtain ⟨P, hP⟩ := hP
      obtain ⟨W, hW⟩ := hW
      obtain ⟨P', -, p2, p3⟩ := longer_eq (show j < 7 by omega) hAb hCb P hl
      obtain ⟨W', -, w2, w3⟩ := longer_eq (show i < 7 by omega) hAa hCa W hl
      have lP : Lg nb gb eb l P P' := ⟨p2, p3⟩
      have lW : Lg na ga ea l W W' := ⟨w2, w3⟩
      refine ih (u ++ [l]) (fun k hk => hw k (List.mem_cons_of_mem _ hk)) (fun k hk => ?_) ⟨P', Lg_word hP lP⟩ ⟨W', Lg_word hW lW⟩ fun P2 W2 hP2 hW2 q hq hb => ?_
      · rcases List.mem_append.mp hk with e | e
        · exact hu k e
        · rw [List.mem_singleton.mp e]; exact hl
      · rw [Pw_uniq hW2 (Lg_word hW lW)] at hb
        rw [Pw_uniq hP2 (Lg_word hP lP)]
        obtain ⟨j0, j1, j2, j3⟩ := (Lg_bits lW hq).mp hb
        obtain ⟨i1, a1, a2, a3⟩ := h P W hP hW j0 j1 j2
        rcases hPd i1 a1 j0 j1 a3 (by rw [hF i1 a1, b_0]) l hl with ⟨-, -, h⟩ | h
        · omega
        · exact h P' (by rw [a2, add1_sub]; exact lP) q hq j3
  have e0 : ∃ P, Pw nb gb eb (fun _ => True) [] P := by
    obtain ⟨r, -, h2⟩ := emptyAll_eq hAb hCb
    exact ⟨r, h2⟩
  have e1 : ∃ W, Pw na ga ea (fun x => bt o x = true) [] W := by
    obtain ⟨r, -, h2⟩ := empty_eq hAa hCa o
    exact ⟨r, h2⟩
  exact key v [] hv (fun l h => by cases h) e0 e1 hBg P W hP hW q hq hb
def uR (z : Nat × Nat) : Prop := z = (1, 11) ∨ uO z
theorem reset_eq (M : Mm) : ∃ M', m_R_reset M = some M' ∧ (∀ k, k < 1024 → M'.1 (1, 7) k = 0 ∧ M'.1 (1, 8) k = 0 ∧ M'.1 (1, 9) k = 0) ∧ (∀ k, k < 4 → M'.1 (1, 11) k = 0) ∧ M'.1 (5, 0) 4 = 0 ∧ M'.1 (5, 0) 5 = 0 ∧ Frm uR M M' := by
  obtain ⟨A, a1, a2, a3⟩ := fill_eq 7 0 M
  obtain ⟨B, b1, b2, b3⟩ := fill_eq 8 0 A
  obtain ⟨C, c1, c2, c3⟩ := fill_eq 9 0 B
  obtain ⟨D, d1, d2, d3⟩ := fill_eq 11 0 C
  have a2 : ∀ i, i < 1024 → A.1 (1, 7) i = 0 := a2
  have b2 : ∀ i, i < 1024 → B.1 (1, 8) i = 0 := b2
  have c2 : ∀ i, i < 1024 → C.1 (1, 9) i = 0 := c2
  have d2 : ∀ i, i < 4 → D.1 (1, 11) i = 0 := d2
  refine ⟨uI (uI D (5, 0) 4 0) (5, 0) 5 0, ?_, fun k hk => ⟨?_, ?_, ?_⟩, fun k hk => ?_, ?_, uI_at _ _ _ _, ?_⟩
  · unfold m_R_reset
    rw [a1, bd_some, b1, bd_some, c1, bd_some, d1, bd_some, bd_some, bd_some]
  · rw [uI_ne _ _ _ (cells_ne (by omega)), uI_ne _ _ _ (cells_ne (by omega)), d3.1 _ (cells_ne (by omega)), c3.1 _ (cells_ne (by omega)), b3.1 _ (cells_ne (by omega))]
    exact a2 k hk
  · rw [uI_ne _ _ _ (cells_ne (by omega)), uI_ne _ _ _ (cells_ne (by omega)), d3.1 _ (cells_ne (by omega)), c3.1 _ (cells_ne (by omega))]
    exact b2 k hk
  · rw [uI_ne _ _ _ (cells_ne (by omega)), uI_ne _ _ _ (cells_ne (by omega)), d3.1 _ (cells_ne (by omega))]
    exact c2 k hk
  · rw [uI_ne _ _ _ (cells_ne (by omega)), uI_ne _ _ _ (cells_ne (by omega))]
    exact d2 k hk
  · rw [uI_off _ _ _ (by omega), uI_at]
  · refine (((((a3.mono ?_).trans (b3.mono ?_)).trans (c3.mono ?_)).trans (d3.mono ?_)).trans (Frm.uI _ _ _ ?_)).trans (Frm.uI _ _ _ ?_)
    · intro z hz; exact Or.inr (Or.inl hz)
    · intro z hz; exact Or.inr (Or.inr (Or.inl hz))
    · intro z hz; exact Or.inr (Or.inr (Or.inr (Or.inl hz)))
    · intro z hz; exact Or.inl hz
    · exact Or.inr (Or.inr (Or.inr (Or.inr (Or.inr rfl))))
    · exact Or.inr (Or.inr (Or.inr (Or.inr (Or.inr rfl))))
theorem CP_uR {M M' : Mm} {j n : Nat} {g : Nat → Bool} {e : Ed} (hj : j < 6) (h : CP M j n g e) (hF : Frm uR M M') : CP M' j n g e := CP_frm h hF (by rintro (h | h | h | h | h | h) <;> cases h) (by rintro (h | h | h | h | h | h) <;> cases h <;> omega)
theorem b_7 : ∀ x, x < 3 → bt 7 x = true := by decide +kernel
/-- the class's answer: is there a word that the one takes and the other does not -/
theorem refutes_eq {M : Mm} {i j : Nat} (hi : i < 6) (hj : j < 6) (hAa : AOK na ga ea) (hAb : AOK nb gb eb) (hnb : nb ≤ 3) (hCa : CP M i na ga ea) (hCb : CP M j nb gb eb) : ∃ b M', m_R_refutes i j M = some (b, M') ∧ Frm uR M M' ∧ (b = true ↔ Df ea ga eb gb) := by
  obtain ⟨r, r1, r2⟩ := useful_eq (show i < 7 by omega) hAa hCa
  have hna := hAa.1
  have ho : ∀ s, Lv na ga ea s ∧ ga s = true → bt (r &&& M.1 (0, i) 1) s = true := fun s h => by
    have := h.1.1
    rw [b_and, (r2 s).mpr h.1, hCa.2.1 s (by omega), h.2]; rfl
  unfold m_R_refutes
  rw [r1, bd_some]
  generalize r &&& M.1 (0, i) 1 = o at ho
  by_cases h0 : o = 0
  · rw [if_pos h0]
    refine ⟨false, M, rfl, Frm.rfl, fun h => (by cases h), fun h => ?_⟩
    obtain ⟨s, u, v, h1, -⟩ := Df_good hAa h
    have := ho s h1
    rw [h0, b_0] at this
    cases this
  · rw [if_neg h0]
    obtain ⟨A, a1, a2, a3, a4, a5, a6⟩ := reset_eq M
    rw [a1, bd_some]
    have cA := CP_uR hi hCa a6
    have cB := CP_uR hj hCb a6
    obtain ⟨B, b1, b2, b3⟩ := findM_eq hi hj hAa hAb hnb cA cB a3
    have hFB : Frm uR M B := a6.trans (b3.mono fun z hz => Or.inl hz)
    have cA2 := CP_uR hi hCa hFB
    have cB2 := CP_uR hj hCb hFB
    have z7 : B.1 (1, 7) = A.1 (1, 7) := b3.1 _ (cells_ne (by omega))
    have z8 : B.1 (1, 8) = A.1 (1, 8) := b3.1 _ (cells_ne (by omega))
    have z9 : B.1 (1, 9) = A.1 (1, 9) := b3.1 _ (cells_ne (by omega))
    have z5 : B.1 (5, 0) = A.1 (5, 0) := b3.1 _ (cells_ne (by omega))
    obtain ⟨e, e1, e2⟩ := empty_eq hAb cB2 7
    have e2 : Pw nb gb eb (fun _ => True) [] e := e2.all fun x hx => b_7 x (by omega)
    obtain ⟨w, w1, w2⟩ := empty_eq hAa cA2 o
    have hT : TI na nb ga gb ea eb o B := by
      refine ⟨fun k hk h => ?_, ⟨0, 0, fun _ => 0, by omega, by rw [z5]; exact a4, by rw [z5]; exact a5, fun r hr => by omega, fun r r' _ h => by omega, fun k hk => ?_⟩, fun k hk _ => ?_, fun k hk q hq h => ?_, fun k hk h => ?_, fun k hk q hq h => ?_⟩
      · rw [z7] at h; exact absurd (a2 k hk).1 h
      · rw [z9]
        exact ⟨fun h => absurd (a2 k hk).2.2 h, fun ⟨r, hr, _⟩ => by omega⟩
      · rw [z8]; exact (a2 k hk).2.1
      · rw [z9, (a2 k hk).2.2, b_0] at h; cases h
      · rw [z7] at h; exact absurd (a2 k hk).1 h
      · rw [z8, (a2 k hk).2.1, b_0] at h; cases h
    have hl0 : lets [] := fun l h => by cases h
    obtain ⟨a, C, c1, c2, c3, c4, ⟨iS, d1, d2, d3⟩, c6, c7, c8⟩ := offer_TI hAb hnb hT hl0 e2 (W := w) fun q hq hb => ⟨[], w, hl0, e2, w2, hb⟩
    rw [b1, bd_some, e1, bd_some, w1, bd_some, c1, bd_some]
    have s0 : ∀ k, k < 1024 → ∀ q, q < 32 → bt (C.1 (1, 8) k) q = true → bt w q = true := fun k hk q hq h => by
      rcases c8 k hk q hq h with e | ⟨-, e⟩
      · rw [z8, (a2 k hk).2.1, b_0] at e; cases e
      · exact c4 q hq e
    have hFC : Frm uR M C := hFB.trans (c3.mono fun z hz => Or.inr hz)
    have hCn : Cn nb ea eb C := fun k hk s hs hb => by
      have := s0 k hk _ (by omega) hb
      rw [← rG_bt hs hs] at this
      exact ((w2.2 s s).mp this).2.2.elim
    have hPd : Pd na nb ga gb ea eb C 0 0 2 := fun k hk q hq h8 h9 => by
      have := c7 k hk q hq
      unfold Dn at this
      rw [h8, h9, z8, (a2 k hk).2.1, b_0] at this
      cases this
    have hBg : Bg na nb ga gb ea eb o C := fun P W hP hW q hq hb => by
      rw [Pw_uniq hW w2] at hb
      rw [Pw_uniq hP e2]
      exact ⟨iS, d1, d2, d3 q hq hb⟩
    obtain ⟨r', f1, f2⟩ := refs_loop (M0 := M) hi hj hAa hAb hnb (CP_uR hi hCa hFC) (CP_uR hj hCb hFC) (MtOK_uO b2 c3) c2 hCn hPd hBg
    show ∃ b M', (bd (lp (b_R_refutes_45 i j) (0, C)) _) = _ ∧ _
    rw [f1, bd_some]
    rcases f2 with ⟨E, rfl, g1, g2⟩ | ⟨s, E, rfl, g1, g2, g3, g4, g5, g6⟩
    · exact ⟨true, E, rfl, hFC.trans (g1.mono fun z hz => Or.inr hz), fun _ => g2, fun _ => rfl⟩
    · have hFE : Frm uR M E := hFC.trans (g1.mono fun z hz => Or.inr hz)
      refine ⟨false, E, rfl, hFE, fun h => (by cases h), fun h => ?_⟩
      exfalso
      obtain ⟨s, u, v, h1, h2, h3, h4⟩ := Df_good hAa h
      have hs : s < 4 := by have := h1.1.1; omega
      have hv : lets v := pth_lets hAa v (gth_pth _ _ _ h3)
      have cE := CP_uR hi hCa hFE
      have cE2 := CP_uR hj hCb hFE
      obtain ⟨P, hP⟩ := ex_Pw (o := fun _ => True) (show j < 7 by omega) hAb cE2 v [] hv ⟨e, e2⟩
      obtain ⟨W, hW⟩ := ex_Pw (o := fun x => bt o x = true) (show i < 7 by omega) hAa cE v [] hv ⟨w, w2⟩
      rw [List.nil_append] at hP hW
      have hb : bt W (8 * s + 4 + s) = true := by
        rw [← rG_bt hs hs]
        exact (hW.2 s s).mpr ⟨h1.1.1, ho s h1, h3⟩
      obtain ⟨k, k1, k2, k3⟩ := refs_all hi hj hAa hAb cE cE2 g4 g5 g6 v hv hP hW (by omega) hb
      have hx : fw eb u (x0 nb) < 8 := by
        have := b2
        have hm : Mt ea eb nb s (fw eb u (x0 nb)) := ⟨u, h2, rfl⟩
        exact (Mt_min (fun _ x => x < 8) (x0_lt nb) (fun _ _ _ _ _ _ => fl_lt _ _ _) hm)
      obtain ⟨q, q1, q2⟩ := g3 k k1 s hs k3 _ hx ⟨u, h2, rfl⟩
      rw [k2, add1_sub] at q2
      exact h4 ((Tk_set hAb hnb hP).mpr ⟨q, q1, q2⟩)
end REFS
