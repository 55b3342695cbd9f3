/-! included, witness, states, good, has -/
section INCL
variable {na nb : Nat} {ga gb : Nat → Bool} {ea eb : Ed}
theorem Df_pos (hA : AOK na ga ea) (h : Df ea ga eb gb) : 0 < na := by
  obtain ⟨s, u, v, -, h2, -⟩ := h
  cases v with
  | nil => exact h2.elim
  | cons l v =>
    obtain ⟨m, h3, -⟩ := h2
    have := (hA.2.2 _ _ _ h3).2.1
    omega
theorem incl_ref {B : Mm} {j1 j2 : Nat} (hj1 : j1 < 6) (hj2 : j2 < 6) (hAa : AOK na ga ea) (hAb : AOK nb gb eb) (hnb : nb ≤ 3) (hRa : RP B j1 na ga ea) (hRb : RP B j2 nb gb eb) : ∃ b D, m_M_included (nI j1) (nI j2) B = some (b, D) ∧ (b = true ↔ ¬ Df ea ga eb gb) ∧ D.1 (8, 0) 0 = 0 ∧ D.2 (2, 3) = B.2 (2, 3) ∧ (∀ c d : Nat, c ≠ 8 → ¬ (c = 1 ∧ 19 ≤ d ∧ d ≤ 22) → D.1 (c, d) = B.1 (c, d)) ∧ (b = true → D.1 (8, 0) 4 = 0) ∧ (b = false → (D.1 (8, 0) 4 = 0 ∧ Cln ga ea gb eb 9 0 0) ∨ Fnd ga ea gb eb (D.1 (8, 0) 4) (D.1 (1, 19) 0) (D.1 (1, 19) 1) (D.1 (1, 19) 2) (D.1 (1, 19) 3)) := by
  have hna := hAa.1
  let M10 := uI (uI B (8, 0) 0 0) (8, 0) 4 0
  have k1 : ∀ c d : Nat, c ≠ 8 → M10.1 (c, d) = B.1 (c, d) := fun c d hc => by
    show (uI (uI B (8, 0) 0 0) (8, 0) 4 0).1 (c, d) = _
    rw [uI_ne _ _ _ (cells_ne (by omega)), uI_ne _ _ _ (cells_ne (by omega))]
  have k2 : M10.1 (8, 0) 0 = 0 := by
    show (uI (uI B (8, 0) 0 0) (8, 0) 4 0).1 (8, 0) 0 = 0
    rw [uI_off _ _ _ (by omega), uI_at]
  have k3 : M10.1 (8, 0) 4 = 0 := uI_at _ _ _ _
  have rA : RP M10 j1 na ga ea := RP_of hRa (k1 _ _ (by omega)) (k1 _ _ (by omega)) (k1 _ _ (by omega))
  have rB : RP M10 j2 nb gb eb := RP_of hRb (k1 _ _ (by omega)) (k1 _ _ (by omega)) (k1 _ _ (by omega))
  have pre : m_M_included (nI j1) (nI j2) B = (if M10.1 (1, 18) j1 = 0 then some (true, M10) else bd (m_M_differs (nI j1) (nI j2) M10) fun r11 => if (bI r11.1) = 0 then some (true, r11.2) else bd (lp (b_M_included_77 (nI j1) (nI j2)) ((1 : Int32), r11.2)) fun r12 => some (false, r12.2)) := by
    unfold m_M_included
    rw [out6_ok hj1, bd_some, if_pos bIf, out6_ok hj2, bd_some, if_pos bIf, ck_of (sz_in hj2), nI_clamp (show j2 < 2 ^ 31 by omega), hRb.1, if_neg (show ¬ nI nb = (4 : Int32) from fun h => by have := (nI_eq (a := nb) (b := 4) (by omega) (by decide)).mp h; omega), bd_some, if_pos (th0 _), bd_some, ck_of (sz_in hj1), nI_clamp (show j1 < 2 ^ 31 by omega)]
  rw [pre, rA.1]
  by_cases hz : na = 0
  · rw [if_pos (show nI na = (0 : Int32) by rw [hz]; rfl)]
    refine ⟨true, M10, rfl, ⟨fun _ hd => ?_, fun _ => rfl⟩, k2, rfl, fun c d hc _ => k1 c d hc, fun _ => k3, fun h => by cases h⟩
    have := Df_pos hAa hd; omega
  · rw [if_neg (nI_ne0 (by omega) (by omega))]
    obtain ⟨f, E, e1, e2, e3⟩ := differs_eq hj1 hj2 hAa hAb hnb rA rB
    rw [e1, bd_some]
    have kE : ∀ c d : Nat, ¬ (c = 1 ∧ 20 ≤ d ∧ d ≤ 22) → E.1 (c, d) = M10.1 (c, d) := fun c d h => e2.1 _ (cells_ne (by omega)) (cells_ne (by omega)) (cells_ne (by omega))
    cases f with
    | false =>
      dsimp only
      rw [if_pos bIf]
      refine ⟨true, E, rfl, ⟨fun _ hd => ?_, fun _ => rfl⟩, by rw [kE _ _ (by omega)]; exact k2, e2.2, fun c d hc h => by rw [kE _ _ (by omega), k1 c d hc], fun _ => by rw [kE _ _ (by omega)]; exact k3, fun h => by cases h⟩
      have := e3.mpr hd
      cases this
    | true =>
      dsimp only
      rw [if_neg bIt]
      have rA2 : RP E j1 na ga ea := RP_of rA (kE _ _ (by omega)) (kE _ _ (by omega)) (kE _ _ (by omega))
      have rB2 : RP E j2 nb gb eb := RP_of rB (kE _ _ (by omega)) (kE _ _ (by omega)) (kE _ _ (by omega))
      obtain ⟨r, r1, r2, r3, r4⟩ := looks_eq hAa hAb rA2 rB2 hj1 hj2 (by rw [kE _ _ (by omega)]; exact k3)
      rw [r1, bd_some]
      refine ⟨false, r.2, rfl, ⟨fun h => (by cases h), fun h => absurd (e3.mp rfl) h⟩, by rw [r3, kE _ _ (by omega)]; exact k2, by rw [r2.2]; exact e2.2, fun c d hc h => ?_, fun h => (by cases h), fun _ => r4⟩
      rw [r2.1 (c, d) (by rintro (h | h) <;> (have q1 := congrArg Prod.fst h; have q2 := congrArg Prod.snd h; simp only at q1 q2; omega)), kE _ _ (by omega), k1 c d hc]
end INCL
theorem s_included {M : Mm} (hI : Inv M) (x y : Int32) : ∃ k M1 b M2, m_L_included x y 3 M = some (k, M1) ∧ m_M_included x y M1 = some (b, M2) ∧ OkB k b M2 := by
  rcases ixc x (n := 6) (by omega) with hb | ⟨j1, hj1, rfl⟩
  · refine ⟨1, M, false, uI M (8, 0) 0 1, ?_, ?_, OkB_bad hI⟩
    · unfold m_L_included m_D_included
      rw [at_bad hb, bd_some, smi, bd_some, smi, if_pos rfl]
    · unfold m_M_included
      rw [out6_bad hb, bd_some, if_neg bIt, bd_some, if_neg (th1 M)]
  rcases ixc y (n := 6) (by omega) with hb | ⟨j2, hj2, rfl⟩
  · refine ⟨1, M, false, uI M (8, 0) 0 1, ?_, ?_, OkB_bad hI⟩
    · unfold m_L_included m_D_included
      rw [at_ok hj1, bd_some, sml, ck_of (dec7 hj1), at_bad hb, bd_some, smi, bd_some, smi, if_pos rfl]
    · unfold m_M_included
      rw [out6_ok hj1, bd_some, if_pos bIf, out6_bad hb, bd_some, if_neg bIt, bd_some, if_neg (th1 M)]
  have hI' := hI
  obtain ⟨⟨n, g, e, h1⟩, h2⟩ := hI
  obtain ⟨p1, p2, p3⟩ := h1 j1 hj1
  obtain ⟨q1, q2, q3⟩ := h1 j2 hj2
  have hn1 := p1.1
  have hn2 := q1.1
  by_cases h4 : n j2 < 4
  case neg =>
    have e4 : n j2 = 4 := by omega
    refine ⟨2, M, false, uI M (8, 0) 0 2, ?_, ?_, uI_at _ _ _ _, fun h => absurd h (by decide), Inv_th hI' 2⟩
    · unfold m_L_included m_D_included
      rw [at_ok hj1, bd_some, sml, ck_of (dec7 hj1), at_ok hj2, bd_some, sml, ck_of (dec7 hj2), q2.1, e4, if_neg (show ¬ nI 4 < (4 : Int32) from nI_nlt (b := 4) (Nat.le_refl 4) (by decide)), bd_some, smi, if_neg (show ¬ (2 : Nat) = 1 by decide), if_pos rfl]
    · unfold m_M_included
      rw [out6_ok hj1, bd_some, if_pos bIf, out6_ok hj2, bd_some, if_pos bIf, ck_of (sz_in hj2), nI_clamp (by omega), q3.1, e4, if_pos (show nI 4 = (4 : Int32) from rfl), bd_some, if_neg (th2 M)]
  obtain ⟨f, A, a1, a2, a3⟩ := refutes_eq hj1 hj2 p1 q1 (by omega) p2 q2
  have kA : ∀ c d : Nat, ¬ (c = 1 ∧ 7 ≤ d ∧ d ≤ 11) → c ≠ 5 → A.1 (c, d) = M.1 (c, d) := fun c d h h' => a2.1 _ (by
    rintro (h | h | h | h | h | h) <;> (have q1 := congrArg Prod.fst h; have q2 := congrArg Prod.snd h; simp only at q1 q2; omega))
  have hDc : ∀ X : Option ((Bool × Mm) ⊕ (Nat × Mm)), (bd (m_R_refutes j1 j2 M) fun r7 => if (bI r7.1) = 0 then (bd (m_F_forget r7.2) fun r9 => some (Sum.inl (true, r9))) else bd (m_F_search j1 j2 r7.2) fun r8 => some (Sum.inl (false, r8))) = X → m_D_included (nI j1) (nI j2) M = X := fun X hX => by
    unfold m_D_included
    rw [at_ok hj1, bd_some, sml, ck_of (dec7 hj1), at_ok hj2, bd_some, sml, ck_of (dec7 hj2), q2.1, if_pos (show nI (n j2) < (4 : Int32) from nI_lt (b := 4) h4 (by decide))]
    exact hX
  -- what both sides keep gives the automata
  have fin : ∀ {B D : Mm}, (∀ c d : Nat, c ≠ 6 → ¬ (c = 1 ∧ 12 ≤ d ∧ d ≤ 15) → B.1 (c, d) = A.1 (c, d)) → (∀ c d : Nat, c ≠ 8 → ¬ (c = 1 ∧ 19 ≤ d ∧ d ≤ 22) → D.1 (c, d) = B.1 (c, d)) → FO D → Inv D := fun {B D} hB hD hO => by
    have all : ∀ c d : Nat, (c = 0 ∨ (c = 1 ∧ (d < 6 ∨ (16 ≤ d ∧ d ≤ 18)))) → D.1 (c, d) = M.1 (c, d) := fun c d h => by
      rw [hD c d (by omega) (by omega), hB c d (by omega) (by omega), kA c d (by omega) (by omega)]
    exact ⟨⟨n, g, e, IA_of h1 (fun j hj => ⟨all _ _ (by omega), all _ _ (by omega)⟩) (all _ _ (by omega)) (all _ _ (by omega)) (all _ _ (by omega))⟩, hO⟩
  cases f with
  | false =>
    have hnd : ¬ Df (e j1) (g j1) (e j2) (g j2) := fun h => by have := a3.mpr h; cases this
    let B := uL (uI A (6, 0) 2 0) (2, 3) 0 1
    have kB : ∀ c d : Nat, c ≠ 6 → B.1 (c, d) = A.1 (c, d) := fun c d hc => uI_ne _ _ _ (cells_ne (by omega))
    have rA : RP B j1 (n j1) (g j1) (e j1) := RP_of p3 (by rw [kB _ _ (by omega), kA _ _ (by omega) (by omega)]) (by rw [kB _ _ (by omega), kA _ _ (by omega) (by omega)]) (by rw [kB _ _ (by omega), kA _ _ (by omega) (by omega)])
    have rB : RP B j2 (n j2) (g j2) (e j2) := RP_of q3 (by rw [kB _ _ (by omega), kA _ _ (by omega) (by omega)]) (by rw [kB _ _ (by omega), kA _ _ (by omega) (by omega)]) (by rw [kB _ _ (by omega), kA _ _ (by omega) (by omega)])
    obtain ⟨b, D, d1, d2, d3, d4, d5, d6, d7⟩ := incl_ref hj1 hj2 p1 q1 (by omega) rA rB
    have eb : b = true := d2.mpr hnd
    subst eb
    have eD : D.1 (6, 0) 2 = 0 := by
      rw [d5 _ _ (by omega) (by omega)]
      exact uI_at A (6, 0) 2 0
    refine ⟨0, B, true, D, ?_, d1, d3, fun _ => ?_, fin (fun c d hc _ => kB c d hc) d5 ⟨⟨fun _ => d6 rfl, fun _ => eD⟩, fun h => absurd eD h⟩⟩
    · unfold m_L_included
      rw [hDc (some (.inl (true, uI A (6, 0) 2 0))) (by rw [a1, bd_some]; dsimp only; rw [if_pos bIf]; unfold m_F_forget; rw [bd_some, bd_some]), bd_some, sml]
      dsimp only
      rw [if_neg bIt, ck_of inL3, bd_some, cl0]
    · rw [d4]
      exact uL_at _ _ _ _
  | true =>
    have hd : Df (e j1) (g j1) (e j2) (g j2) := a3.mp rfl
    obtain ⟨S, s1, s2, s3⟩ := search_eq hj1 hj2 p1 q1 (CP_uR hj1 p2 a2) (CP_uR hj2 q2 a2)
    let B := uL S (2, 3) 0 0
    have kB : ∀ c d : Nat, c ≠ 6 → ¬ (c = 1 ∧ 12 ≤ d ∧ d ≤ 15) → B.1 (c, d) = A.1 (c, d) := fun c d hc hd => s2.1 (c, d) (by
      rintro (h | h | h | h | h) <;> (have q1 := congrArg Prod.fst h; have q2 := congrArg Prod.snd h; simp only at q1 q2; omega))
    have rA : RP B j1 (n j1) (g j1) (e j1) := RP_of p3 (by rw [kB _ _ (by omega) (by omega), kA _ _ (by omega) (by omega)]) (by rw [kB _ _ (by omega) (by omega), kA _ _ (by omega) (by omega)]) (by rw [kB _ _ (by omega) (by omega), kA _ _ (by omega) (by omega)])
    have rB : RP B j2 (n j2) (g j2) (e j2) := RP_of q3 (by rw [kB _ _ (by omega) (by omega), kA _ _ (by omega) (by omega)]) (by rw [kB _ _ (by omega) (by omega), kA _ _ (by omega) (by omega)]) (by rw [kB _ _ (by omega) (by omega), kA _ _ (by omega) (by omega)])
    obtain ⟨b, D, d1, d2, d3, d4, d5, d6, d7⟩ := incl_ref hj1 hj2 p1 q1 (by omega) rA rB
    have eb : b = false := by
      cases b with
      | false => rfl
      | true => exact absurd hd (d2.mp rfl)
    subst eb
    have e6 : D.1 (6, 0) = S.1 (6, 0) := d5 _ _ (by omega) (by omega)
    have hO : FO D := by
      unfold FO
      rw [e6]
      rcases s3 with ⟨z1, z2⟩ | z1
      · rcases d7 rfl with ⟨w1, w2⟩ | w1
        · exact ⟨⟨fun _ => w1, fun _ => z1⟩, fun h => absurd z1 h⟩
        · exact (Fnd_no w1 z2).elim
      · rcases d7 rfl with ⟨w1, w2⟩ | w1
        · exact (Fnd_no z1 w2).elim
        · have hone := Fnd_one z1 w1
          obtain ⟨_, _, _, _, _, _, _, _, z2, _⟩ := z1
          obtain ⟨_, _, _, _, _, _, _, _, w2, _⟩ := w1
          exact ⟨⟨fun h => by rw [z2] at h; exact absurd h (by decide), fun h => by rw [w2] at h; exact absurd h (by decide)⟩, fun _ => hone⟩
    refine ⟨0, B, false, D, ?_, d1, d3, fun _ => ?_, fin kB d5 hO⟩
    · unfold m_L_included
      rw [hDc (some (.inl (false, S))) (by rw [a1, bd_some]; dsimp only; rw [if_neg bIt, s1, bd_some]), bd_some, sml]
      dsimp only
      rw [if_pos bIf, ck_of inL3, bd_some, cl0]
    · rw [d4]
      exact uL_at _ _ _ _
theorem s_witness {M : Mm} (hI : Inv M) (x : Int32) : ∃ k M1 b M2, m_L_witness x 3 M = some (k, M1) ∧ m_M_witness x M1 = some (b, M2) ∧ OkI k b M2 := by
  have hO := hI.2
  rcases ixc x (n := 4) (by omega) with hb | ⟨k, hk, rfl⟩
  · refine ⟨1, M, 0, uI M (8, 0) 0 1, ?_, ?_, OkI_bad hI⟩
    · unfold m_L_witness m_D_witness
      by_cases h0 : x < 0
      · rw [if_pos h0, bd_some, smi, if_pos rfl]
      · have h4 : nI 4 ≤ x := hb.resolve_left h0
        rw [if_neg h0, if_neg (fun h3 : x ≤ (3 : Int32) => absurd (Int32.le_trans h4 h3) (by decide)), bd_some, smi, if_pos rfl]
    · unfold m_M_witness
      rw [show m_M_out x 4 = some true from out_bad (n := 4) hb, bd_some, if_neg bIt, bd_some, if_neg (th1 M)]
  · have hout : m_M_out (nI k) 4 = some false := out_ok (n := 4) hk (by decide)
    have h3 : nI k ≤ (3 : Int32) := nI_le (b := 3) (by omega) (by decide)
    by_cases hf : M.1 (6, 0) 2 = 0
    · refine ⟨2, M, 0, uI M (8, 0) 0 2, ?_, ?_, OkI_bad2 hI⟩
      · unfold m_L_witness m_D_witness
        rw [if_neg (nI_pos (by omega)), if_pos h3, if_pos hf, bd_some, smi, if_neg (show ¬ (3 : Nat) = 1 by decide), if_pos rfl]
      · unfold m_M_witness
        rw [hout, bd_some, if_pos bIf, if_pos (hO.1.mp hf), bd_some, if_neg (th2 M)]
    · obtain ⟨w0, w1, w2, w3⟩ := hO.2 hf
      have hcl : m_D_witness (nI k) M = some (.inl (M.1 (1, 19) k)) := by
        unfold m_D_witness
        rw [if_neg (nI_pos (by omega)), if_pos h3, if_neg hf]
        rcases (show k = 0 ∨ k = 1 ∨ k = 2 ∨ k = 3 by omega) with rfl | rfl | rfl | rfl
        · rw [if_pos (show nI 0 = (0 : Int32) from rfl), w0]
        · rw [if_neg (show ¬ nI 1 = (0 : Int32) by decide), if_pos (show nI 1 = (1 : Int32) from rfl), w1]
        · rw [if_neg (show ¬ nI 2 = (0 : Int32) by decide), if_neg (show ¬ nI 2 = (1 : Int32) by decide), if_pos (show nI 2 = (2 : Int32) from rfl), w2]
        · rw [if_neg (show ¬ nI 3 = (0 : Int32) by decide), if_neg (show ¬ nI 3 = (1 : Int32) by decide), if_neg (show ¬ nI 3 = (2 : Int32) by decide), w3]
      refine ⟨0, uL M (2, 3) 0 (M.1 (1, 19) k).toInt64, M.1 (1, 19) k, _, ?_, ?_, OkI_same hI _⟩
      · unfold m_L_witness
        rw [hcl, bd_some, sml, ck_of inL3, bd_some, cl0]
      · unfold m_M_witness
        have e4 : ¬ (uL M (2, 3) 0 (M.1 (1, 19) k).toInt64).1 (8, 0) 4 = 0 := fun h => hf (hO.1.mpr h)
        rw [hout, bd_some, if_pos bIf, if_neg e4, bd_some, if_pos (th0 _), ck_of (in19 hk), nI_clamp (by omega), uI_ne _ _ _ (cells_ne (by omega))]
        rfl
theorem s_states {M : Mm} (hI : Inv M) (x : Int32) : ∃ k M1 b M2, m_L_states x 3 M = some (k, M1) ∧ m_M_states x M1 = some (b, M2) ∧ OkI k b M2 := by
  rcases ixc x (n := 6) (by omega) with hb | ⟨j, hj, rfl⟩
  · refine ⟨1, M, 0, uI (uI M (8, 0) 0 0) (8, 0) 0 1, ?_, ?_, OkI_bad (Inv_th hI 0)⟩
    · unfold m_L_states m_D_states
      rw [at_bad hb, bd_some, smi, bd_some, smi, if_pos rfl]
    · unfold m_M_states m_M_fail
      rw [bd_some, out6_bad hb, bd_some, if_neg bIt, bd_some, bd_some]
  · have hI' := hI
    obtain ⟨⟨n, g, e, h1⟩, h2⟩ := hI
    obtain ⟨p1, p2, p3⟩ := h1 j hj
    refine ⟨0, uL M (2, 3) 0 (nI (n j)).toInt64, nI (n j), _, ?_, ?_, OkI_same hI' _⟩
    · unfold m_L_states m_D_states
      rw [at_ok hj, bd_some, sml, ck_of (dec7 hj), p2.1, bd_some, sml, ck_of inL3, bd_some, cl0]
    · unfold m_M_states
      have := (RP_th (v := (nI (n j)).toInt64) (k := 0) p3).1
      rw [bd_some, out6_ok hj, bd_some, if_pos bIf, ck_of (sz_in hj), nI_clamp (by omega), this]
theorem s_good {M : Mm} (hI : Inv M) (x s : Int32) : ∃ k M1 b M2, m_L_good x s 3 M = some (k, M1) ∧ m_M_good x s M1 = some (b, M2) ∧ OkB k b M2 := by
  rcases ixc x (n := 6) (by omega) with hb | ⟨j, hj, rfl⟩
  · refine ⟨1, M, false, uI M (8, 0) 0 1, ?_, ?_, OkB_bad hI⟩
    · unfold m_L_good m_D_good
      rw [at_bad hb, bd_some, smi, bd_some, smi, if_pos rfl]
    · unfold m_M_good
      rw [out6_bad hb, bd_some, if_neg bIt, bd_some, if_neg (tq1 M)]
  · have hI' := hI
    obtain ⟨⟨n, g, e, h1⟩, h2⟩ := hI
    obtain ⟨p1, p2, p3⟩ := h1 j hj
    have hn := p1.1
    rcases ixc s (n := n j) (by omega) with hb | ⟨q, hq, rfl⟩
    · refine ⟨1, M, false, uI M (8, 0) 0 1, ?_, ?_, OkB_bad hI'⟩
      · unfold m_L_good m_D_good
        rw [at_ok hj, bd_some, sml, ck_of (dec7 hj), has_bad hb p2.1, bd_some, if_pos bIf, bd_some, smi, if_pos rfl]
      · unfold m_M_good
        rw [out6_ok hj, bd_some, if_pos bIf, ck_of (sz_in hj), nI_clamp (by omega), p3.1, out_bad hb, bd_some, if_neg bIt, bd_some, if_neg (tq1 M)]
    · have hM : ∀ v : Int64, m_M_good (nI j) (nI q) (uL M (2, 3) 0 v) = some (g j q, uI (uL M (2, 3) 0 v) (8, 0) 0 0) := fun v => by
        have r := RP_th (v := v) (k := 0) p3
        have r2 : bt ((uI (uL M (2, 3) 0 v) (8, 0) 0 0).1 (1, 17) j) q = g j q := r.2.1 q hq
        have e18 : (uL M (2, 3) 0 v).1 (1, 18) j = nI (n j) := p3.1
        unfold m_M_good
        rw [out6_ok hj, bd_some, if_pos bIf, ck_of (sz_in hj), nI_clamp (by omega), e18, out_ok hq (by omega), bd_some, if_pos bIf, bd_some, if_pos (tq0 _), ck_of (gd_in hj)]
        cases hg : g j q
        · rw [if_neg (by rw [b_tst1 _ (by omega), r2, hg]; simp)]
        · rw [if_pos (by rw [b_tst1 _ (by omega), r2, hg])]
      have hD : m_D_good (nI j) (nI q) M = some (.inl (g j q)) := by
        unfold m_D_good
        rw [at_ok hj, bd_some, sml, ck_of (dec7 hj), has_ok hq (by omega) p2.1, bd_some, if_neg bIt, isGood_eq p2 (by omega), bd_some]
      cases hg : g j q
      · refine ⟨0, uL M (2, 3) 0 0, false, _, ?_, by rw [hM, hg], OkB_same (v := 0) hI' false rfl⟩
        unfold m_L_good
        rw [hD, hg, bd_some, sml, if_pos bIf, ck_of inL3, bd_some, cl0]
      · refine ⟨0, uL M (2, 3) 0 1, true, _, ?_, by rw [hM, hg], OkB_same (v := 1) hI' true rfl⟩
        unfold m_L_good
        rw [hD, hg, bd_some, sml, if_neg bIt, ck_of inL3, bd_some, cl0]
theorem s_has {M : Mm} (hI : Inv M) (x f l t : Int32) : ∃ k M1 b M2, m_L_has x f l t 3 M = some (k, M1) ∧ m_M_has x f l t M1 = some (b, M2) ∧ OkB k b M2 := by
  have hI' := hI
  obtain ⟨⟨n, g, e, h1⟩, h2⟩ := hI
  rcases places h1 x f l t with ⟨p1, p2⟩ | ⟨j, f', l', t', hj, hf, hl, ht, rfl, rfl, rfl, rfl, p1, p2⟩
  · refine ⟨1, M, false, uI M (8, 0) 0 1, ?_, ?_, OkB_bad hI'⟩
    · unfold m_L_has m_D_has
      rw [p1, bd_some, smi, bd_some, smi, if_pos rfl]
    · unfold m_M_has
      rw [p2, bd_some, if_pos bIf, bd_some, if_neg (tq1 M)]
  · obtain ⟨a1, a2, a3⟩ := h1 j hj
    have hn := a1.1
    have hjn := joins_eq (show j < 7 by omega) a2 (show f' < 4 by omega) hl (show t' < 32 by omega)
    have hD : m_D_has (nI j) (nI f') (nI l') (nI t') M = some (.inl (e j l' f' t')) := by
      unfold m_D_has
      rw [p1, bd_some, sml, ck_of (dec7 hj), hjn, bd_some]
    have hx : inb (nI (8 * j + 4 * l' + f')) (lenI 16) = true := to_in hj hl (by omega)
    have hM : ∀ v : Int64, m_M_has (nI j) (nI f') (nI l') (nI t') (uL M (2, 3) 0 v) = some (e j l' f' t', uI (uL M (2, 3) 0 v) (8, 0) 0 0) := fun v => by
      have p2' : m_M_isEdge (nI j) (nI f') (nI l') (nI t') (uL M (2, 3) 0 v) = some true := p2
      have r := RP_th (v := v) (k := 0) a3
      have r2 : bt ((uI (uL M (2, 3) 0 v) (8, 0) 0 0).1 (1, 16) (8 * j + 4 * l' + f')) t' = e j l' f' t' := r.2.2 l' hl f' hf t' (by omega)
      unfold m_M_has
      rw [p2', bd_some, if_neg bIt, bd_some, if_pos (tq0 _), to_ix, ck_of hx, nI_clamp (by omega)]
      cases hE : e j l' f' t'
      · rw [if_neg (by rw [b_tst1 _ (by omega), r2, hE]; simp)]
      · rw [if_pos (by rw [b_tst1 _ (by omega), r2, hE])]
    cases hE : e j l' f' t'
    · refine ⟨0, uL M (2, 3) 0 0, false, _, ?_, by rw [hM, hE], OkB_same (v := 0) hI' false rfl⟩
      unfold m_L_has
      rw [hD, hE, bd_some, sml, if_pos bIf, ck_of inL3, bd_some, cl0]
    · refine ⟨0, uL M (2, 3) 0 1, true, _, ?_, by rw [hM, hE], OkB_same (v := 1) hI' true rfl⟩
      unfold m_L_has
      rw [hD, hE, bd_some, sml, if_neg bIt, ck_of inL3, bd_some, cl0]
