/-! the law's loop -/
def M0 : Mm := (fun _ _ => 0, fun _ _ => 0)
theorem Inv_0 : Inv M0 := by
  refine ⟨⟨fun _ => 0, fun _ => noG, fun _ => noE, fun j hj => ⟨AOK_0, ⟨rfl, fun q hq => b_0 q, fun l hl t ht q hq => ?_⟩, RP_0 rfl noG noE⟩⟩, ⟨fun _ => rfl, fun _ => rfl⟩, fun h => absurd rfl h⟩
  rw [show bt (M0.1 (1, j) (16 * l + t)) q = false from b_0 q]
  constructor
  · intro h; cases h
  · rintro ⟨s, -, -, h⟩; cases h
theorem tailI {k b : Int32} {M : Mm} (h : OkI k b M) (j : Int32) : (bd (m_M_thrown M) fun r3 => if r3 = k then (if k = 0 then ck (inb (0 : Int32) (lenL 3)) (if lg_cmp (M.2 (2, 3) (0 : Int32).toNatClampNeg) b.toInt64 = 0 then some (Sum.inl (j, M)) else some (Sum.inr false)) else some (Sum.inl (j, M))) else some (Sum.inr false)) = (some (Sum.inl (j, M)) : Option ((Int32 × Mm) ⊕ Bool)) := by
  unfold m_M_thrown
  rw [bd_some, if_pos h.1]
  by_cases hk : k = 0
  · rw [if_pos hk, ck_of inL3, cl0, if_pos ((lg_0 _ _).mpr (h.2.1 hk))]
  · rw [if_neg hk]
theorem tailB {k : Int32} {b : Bool} {M : Mm} (h : OkB k b M) (j : Int32) : (bd (m_M_thrown M) fun r3 => if r3 = k then (if k = 0 then ck (inb (0 : Int32) (lenL 3)) (if (bI b) = 0 then (if lg_cmp (M.2 (2, 3) (0 : Int32).toNatClampNeg) (0 : Int64) = 0 then some (Sum.inl (j, M)) else some (Sum.inr false)) else (if lg_cmp (M.2 (2, 3) (0 : Int32).toNatClampNeg) (1 : Int64) = 0 then some (Sum.inl (j, M)) else some (Sum.inr false))) else some (Sum.inl (j, M))) else some (Sum.inr false)) = (some (Sum.inl (j, M)) : Option ((Int32 × Mm) ⊕ Bool)) := by
  unfold m_M_thrown
  rw [bd_some, if_pos h.1]
  by_cases hk : k = 0
  · rw [if_pos hk, ck_of inL3, cl0]
    have h2 := h.2.1 hk
    by_cases hb : bI b = 0
    · rw [if_pos hb] at h2 ⊢
      rw [if_pos ((lg_0 _ _).mpr h2)]
    · rw [if_neg hb] at h2 ⊢
      rw [if_pos ((lg_0 _ _).mpr h2)]
  · rw [if_neg hk]
theorem law_end {L i : Nat} (hL : L ≤ 3072) (hi : i ≤ 3072) : (Int32.ofNat L - 6) < nI i ↔ ¬ i + 6 ≤ L := by
  by_cases h6 : 6 ≤ L
  · have e : Int32.ofNat L - 6 = nI (L - 6) := by
      have : Int32.ofNat L = nI (L - 6) + 6 := by
        show nI L = nI (L - 6) + nI 6
        rw [nI_add, show L - 6 + 6 = L by omega]
      rw [this, Int32.add_sub_cancel]
    rw [e, nI_ltI (by omega) (by omega)]
    omega
  · have h : (Int32.ofNat L - 6) < 0 := (by decide : ∀ L, L < 6 → Int32.ofNat L - 6 < 0) L (by omega)
    exact ⟨fun _ => by omega, fun _ => Int32.lt_of_lt_of_le h (nI_pos' (by omega))⟩
theorem law_step (xs : Nat → Int32) {L i : Nat} {M : Mm} (hL : L ≤ 3072) (hi : i + 6 ≤ L) (hI : Inv M) : ∃ M2, b_law xs L (nI i, M) = some (.inl (nI (i + 6), M2)) ∧ Inv M2 := by
  have a1 : nI i + (1 : Int32) = nI (i + 1) := nI_add i 1
  have a2 : nI i + (2 : Int32) = nI (i + 2) := nI_add i 2
  have a3 : nI i + (3 : Int32) = nI (i + 3) := nI_add i 3
  have a4 : nI i + (4 : Int32) = nI (i + 4) := nI_add i 4
  have a5 : nI i + (5 : Int32) = nI (i + 5) := nI_add i 5
  have a6 : nI i + (6 : Int32) = nI (i + 6) := nI_add i 6
  have k0 : (nI i).toNatClampNeg = i := nI_clamp (by omega)
  have k1 : (nI (i + 1)).toNatClampNeg = i + 1 := nI_clamp (by omega)
  have k2 : (nI (i + 2)).toNatClampNeg = i + 2 := nI_clamp (by omega)
  have k3 : (nI (i + 3)).toNatClampNeg = i + 3 := nI_clamp (by omega)
  have k4 : (nI (i + 4)).toNatClampNeg = i + 4 := nI_clamp (by omega)
  have k5 : (nI (i + 5)).toNatClampNeg = i + 5 := nI_clamp (by omega)
  have c0 : inb (nI i) L = true := vp_inb (vp_in_nI (by omega) (by omega))
  have c1 : inb (nI (i + 1)) L = true := vp_inb (vp_in_nI (by omega) (by omega))
  have c2 : inb (nI (i + 2)) L = true := vp_inb (vp_in_nI (by omega) (by omega))
  have c3 : inb (nI (i + 3)) L = true := vp_inb (vp_in_nI (by omega) (by omega))
  have c4 : inb (nI (i + 4)) L = true := vp_inb (vp_in_nI (by omega) (by omega))
  have c5 : inb (nI (i + 5)) L = true := vp_inb (vp_in_nI (by omega) (by omega))
  have hend : ¬ (Int32.ofNat L - 6) < nI i := fun h => (law_end hL (by omega)).mp h hi
  unfold b_law
  dsimp only
  rw [if_neg hend, ck_of c0, k0]
  generalize hx : (xs i &&& 15) = op
  by_cases h0 : op = 0
  · rw [if_pos h0, a1, a2, ck_of c1, ck_of c2, k1, k2]
    by_cases hz : xs (i + 2) = 0
    · obtain ⟨k, M1, b, M2, s1, s2, s3⟩ := s_state hI (xs (i + 1)) false
      rw [if_pos hz, s1, bd_some]
      dsimp only
      rw [ck_of c1, ck_of c2, if_pos hz, s2, bd_some]
      dsimp only
      rw [tailI s3, a6]
      exact ⟨M2, rfl, s3.2.2⟩
    · obtain ⟨k, M1, b, M2, s1, s2, s3⟩ := s_state hI (xs (i + 1)) true
      rw [if_neg hz, s1, bd_some]
      dsimp only
      rw [ck_of c1, ck_of c2, if_neg hz, s2, bd_some]
      dsimp only
      rw [tailI s3, a6]
      exact ⟨M2, rfl, s3.2.2⟩
  rw [if_neg h0]
  by_cases h1 : op = 1
  · rw [if_pos h1, a1, a2, a3, a4, ck_of c1, ck_of c2, ck_of c3, ck_of c4, k1, k2, k3, k4]
    obtain ⟨k, M1, b, M2, s1, s2, s3⟩ := s_edge hI (xs (i + 1)) (xs (i + 2)) (xs (i + 3)) (xs (i + 4))
    rw [s1, bd_some]
    dsimp only
    rw [ck_of c1, ck_of c2, ck_of c3, ck_of c4, s2, bd_some]
    dsimp only
    rw [tailB s3, a6]
    exact ⟨M2, rfl, s3.2.2⟩
  rw [if_neg h1]
  by_cases h2 : op = 2
  · rw [if_pos h2, a1, ck_of c1, k1]
    obtain ⟨k, M1, M2, s1, s2, s3, s4⟩ := s_clear hI (xs (i + 1))
    rw [s1, bd_some]
    dsimp only
    rw [ck_of c1, s2, bd_some]
    unfold m_M_thrown
    rw [bd_some, if_pos s3, a6]
    exact ⟨M2, rfl, s4⟩
  rw [if_neg h2]
  by_cases h3 : op = 3
  · rw [if_pos h3, a1, a2, a3, ck_of c1, ck_of c2, ck_of c3, k1, k2, k3]
    obtain ⟨k, M1, b, M2, s1, s2, s3⟩ := s_unite hI (xs (i + 1)) (xs (i + 2)) (xs (i + 3))
    rw [s1, bd_some]
    dsimp only
    rw [ck_of c1, ck_of c2, ck_of c3, s2, bd_some]
    dsimp only
    rw [tailI s3, a6]
    exact ⟨M2, rfl, s3.2.2⟩
  rw [if_neg h3]
  by_cases h4 : op = 4
  · rw [if_pos h4, a1, ck_of c1, k1]
    obtain ⟨k, M1, b, M2, s1, s2, s3⟩ := s_trim hI (xs (i + 1))
    rw [s1, bd_some]
    dsimp only
    rw [ck_of c1, s2, bd_some]
    dsimp only
    rw [tailI s3, a6]
    exact ⟨M2, rfl, s3.2.2⟩
  rw [if_neg h4]
  by_cases h5 : op = 5
  · rw [if_pos h5, a1, ck_of c1, k1]
    obtain ⟨k, M1, b, M2, s1, s2, s3⟩ := s_empty hI (xs (i + 1))
    rw [s1, bd_some]
    dsimp only
    rw [ck_of c1, s2, bd_some]
    dsimp only
    rw [tailB s3, a6]
    exact ⟨M2, rfl, s3.2.2⟩
  rw [if_neg h5]
  by_cases h6 : op = 6
  · rw [if_pos h6, a1, a2, a3, a4, a5, ck_of c1, ck_of c2, ck_of c3, ck_of c4, ck_of c5, k1, k2, k3, k4, k5]
    obtain ⟨k, M1, b, M2, s1, s2, s3⟩ := s_takes hI (xs (i + 1)) (xs (i + 2)) (xs (i + 3)) (xs (i + 4)) (xs (i + 5))
    rw [s1, bd_some]
    dsimp only
    rw [ck_of c1, ck_of c2, ck_of c3, ck_of c4, ck_of c5, s2, bd_some]
    dsimp only
    rw [tailB s3, a6]
    exact ⟨M2, rfl, s3.2.2⟩
  rw [if_neg h6]
  by_cases h7 : op = 7
  · rw [if_pos h7, a1, a2, ck_of c1, ck_of c2, k1, k2]
    obtain ⟨k, M1, b, M2, s1, s2, s3⟩ := s_included hI (xs (i + 1)) (xs (i + 2))
    rw [s1, bd_some]
    dsimp only
    rw [ck_of c1, ck_of c2, s2, bd_some]
    dsimp only
    rw [tailB s3, a6]
    exact ⟨M2, rfl, s3.2.2⟩
  rw [if_neg h7]
  by_cases h8 : op = 8
  · rw [if_pos h8, a1, ck_of c1, k1]
    obtain ⟨k, M1, b, M2, s1, s2, s3⟩ := s_witness hI (xs (i + 1))
    rw [s1, bd_some]
    dsimp only
    rw [ck_of c1, s2, bd_some]
    dsimp only
    rw [tailI s3, a6]
    exact ⟨M2, rfl, s3.2.2⟩
  rw [if_neg h8]
  by_cases h9 : op = 9
  · rw [if_pos h9, a1, ck_of c1, k1]
    obtain ⟨k, M1, b, M2, s1, s2, s3⟩ := s_states hI (xs (i + 1))
    rw [s1, bd_some]
    dsimp only
    rw [ck_of c1, s2, bd_some]
    dsimp only
    rw [tailI s3, a6]
    exact ⟨M2, rfl, s3.2.2⟩
  rw [if_neg h9]
  by_cases h10 : op = 10
  · rw [if_pos h10, a1, a2, ck_of c1, ck_of c2, k1, k2]
    obtain ⟨k, M1, b, M2, s1, s2, s3⟩ := s_good hI (xs (i + 1)) (xs (i + 2))
    rw [s1, bd_some]
    dsimp only
    rw [ck_of c1, ck_of c2, s2, bd_some]
    dsimp only
    rw [tailB s3, a6]
    exact ⟨M2, rfl, s3.2.2⟩
  rw [if_neg h10]
  by_cases h11 : op = 11
  · rw [if_pos h11, a1, a2, a3, a4, ck_of c1, ck_of c2, ck_of c3, ck_of c4, k1, k2, k3, k4]
    obtain ⟨k, M1, b, M2, s1, s2, s3⟩ := s_has hI (xs (i + 1)) (xs (i + 2)) (xs (i + 3)) (xs (i + 4))
    rw [s1, bd_some]
    dsimp only
    rw [ck_of c1, ck_of c2, ck_of c3, ck_of c4, s2, bd_some]
    dsimp only
    rw [tailB s3, a6]
    exact ⟨M2, rfl, s3.2.2⟩
  rw [if_neg h11, a6]
  exact ⟨M, rfl, hI⟩
theorem law_pure (xs : Nat → Int32) (L : Nat) (hL : L ≤ 3072) : lpN (b_law xs L) 600 (0, M0) = some true := by
  obtain ⟨r, h1, h2⟩ := lpN_run (b := b_law xs L) (fun s => ∃ k, k ≤ 512 ∧ s.1 = nI (6 * k) ∧ Inv s.2) (fun s => 513 - s.1.toNatClampNeg / 6) (fun r => r = true) (fun s hs => by
    obtain ⟨x, M⟩ := s
    obtain ⟨k, hk, hx, hI⟩ := hs
    have hx : x = nI (6 * k) := hx
    subst hx
    by_cases hi : 6 * k + 6 ≤ L
    · obtain ⟨M2, e1, e2⟩ := law_step xs hL hi hI
      refine Or.inl ⟨_, e1, ⟨k + 1, by omega, by rw [show 6 * (k + 1) = 6 * k + 6 by omega], e2⟩, ?_⟩
      show 513 - (nI (6 * k + 6)).toNatClampNeg / 6 < 513 - (nI (6 * k)).toNatClampNeg / 6
      rw [nI_clamp (by omega), nI_clamp (by omega)]
      omega
    · refine Or.inr ⟨true, ?_, rfl⟩
      unfold b_law
      dsimp only
      rw [if_pos ((law_end hL (by omega)).mpr hi)]) 600 (0, M0) ⟨0, by omega, rfl, Inv_0⟩ (by
    show 513 - (nI 0).toNatClampNeg / 6 < 600
    omega)
  rw [h1, h2]
