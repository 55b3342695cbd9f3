/-! a word's number -/
noncomputable def dn (n : Nat) (g : Nat → Bool) (e : Ed) (v : List Nat) (k : Nat) : Nat := if k / 3 < n then dg e g v (k / 3) (k % 3) else 0
theorem dn_le (n : Nat) (g : Nat → Bool) (e : Ed) (v : List Nat) (k : Nat) : dn n g e v k ≤ 2 := by
  unfold dn
  split
  · exact dg_le
  · omega
noncomputable def nw (n : Nat) (g : Nat → Bool) (e : Ed) (v : List Nat) : Nat := nm (dn n g e v)
theorem nw_lt (n : Nat) (g : Nat → Bool) (e : Ed) (v : List Nat) : nw n g e v < 19683 := nm_lt fun k _ => dn_le n g e v k
theorem nw_d3 (n : Nat) (g : Nat → Bool) (e : Ed) (v : List Nat) {k : Nat} (hk : k < 9) : d3 (nw n g e v) k = dn n g e v k := d3_nm (fun k _ => dn_le n g e v k) hk
theorem dn_at {n : Nat} {g : Nat → Bool} {e : Ed} {v : List Nat} {s t : Nat} (hs : s < n) (ht : t < 3) : dn n g e v (3 * s + t) = dg e g v s t := by
  unfold dn
  rw [show (3 * s + t) / 3 = s by omega, show (3 * s + t) % 3 = t by omega, if_pos hs]
theorem nw_step {n : Nat} {g : Nat → Bool} {e : Ed} (hA : AOK n g e) (hn : n ≤ 3) (v : List Nat) (l : Nat) : nm (Dl n g e l (d3 (nw n g e v))) = nw n g e (v ++ [l]) := by
  refine nm_ext fun k hk => ?_
  unfold Dl dn
  by_cases hs : k / 3 < n
  · rw [if_pos hs, if_pos hs]
    have hx : k % 3 < 3 := Nat.mod_lt _ (by omega)
    generalize k / 3 = s at hs
    generalize k % 3 = x at hx
    have hD : ∀ t, t < n → d3 (nw n g e v) (3 * s + t) = dg e g v s t := fun t ht => by
      rw [nw_d3 n g e v (by omega), dn_at hs (by omega)]
    have h1 := Gv_le g e l (d3 (nw n g e v)) s x n
    have h2 := dg_le (e := e) (g := g) (w := v ++ [l]) (p := s) (q := x)
    have h3 : 0 < Gv g e l (d3 (nw n g e v)) s x n ↔ 0 < dg e g (v ++ [l]) s x := by
      rw [Gv_pos, dg_pos]
      constructor
      · rintro ⟨t, a1, a2, a3⟩
        rw [hD t a1] at a2
        exact pth_j (dg_pos.mp a2) ⟨x, a3, rfl⟩
      · intro h
        obtain ⟨m, a, y, b, c⟩ := (pth_app v [l] s x).mp h
        have c : y = x := c
        subst c
        have hm := (hA.2.2 _ _ _ b).2.1
        exact ⟨m, hm, by rw [hD m hm]; exact dg_pos.mpr a, b⟩
    have h4 : Gv g e l (d3 (nw n g e v)) s x n = 2 ↔ dg e g (v ++ [l]) s x = 2 := by
      rw [Gv_two, dg_two]
      constructor
      · rintro ⟨t, a1, a2, a3, a4⟩
        rw [hD t a1] at a2 a4
        rcases a4 with a4 | a4
        · exact gth_l (dg_two.mp a4) ⟨x, a3, rfl⟩
        · exact gth_r (dg_pos.mp a2) ⟨x, a3, Or.inl ⟨a4, rfl⟩⟩
      · intro h
        obtain ⟨m, ⟨a, y, b, c⟩ | ⟨a, y, b, c⟩⟩ := (gth_app v [l] s x).mp h
        · have c : y = x := c
          subst c
          have hm := (hA.2.2 _ _ _ b).2.1
          exact ⟨m, hm, by rw [hD m hm]; exact dg_pos.mpr (gth_pth _ _ _ a), b, Or.inl (by rw [hD m hm]; exact dg_two.mpr a)⟩
        · rcases c with ⟨c1, c⟩ | c
          · have c : y = x := c
            subst c
            have hm := (hA.2.2 _ _ _ b).2.1
            exact ⟨m, hm, by rw [hD m hm]; exact dg_pos.mpr a, b, Or.inr c1⟩
          · exact c.elim
    omega
  · rw [if_neg hs, if_neg hs]
/-- what a code of (state, flag, number) means, over the words from one state -/
def Sd (na : Nat) (ga : Nat → Bool) (ea : Ed) (nb : Nat) (gb : Nat → Bool) (eb : Ed) (fr x : Nat) : Prop := x < 157464 ∧ x / 19683 / 2 < na ∧ ∃ v, lets v ∧ nw nb gb eb v = x % 19683 ∧ pth ea v fr (x / 19683 / 2) ∧ (x / 19683 % 2 = 1 → gth ea ga v fr (x / 19683 / 2))
section SDX
variable {na nb : Nat} {ga gb : Nat → Bool} {ea eb : Ed}
theorem code_at {r f N : Nat} (hf : f < 2) (hN : N < 19683) : (19683 * (2 * r + f) + N) / 19683 = 2 * r + f ∧ (19683 * (2 * r + f) + N) % 19683 = N ∧ (2 * r + f) / 2 = r ∧ (2 * r + f) % 2 = f := by omega
theorem Sd_step (hAa : AOK na ga ea) (hAb : AOK nb gb eb) (hnb : nb ≤ 3) {fr x y : Nat} (h : Sd na ga ea nb gb eb fr x) (hs : sx ga ea nb gb eb x y) : Sd na ga ea nb gb eb fr y := by
  obtain ⟨h1, h2, v, h3, h4, h5, h6⟩ := h
  obtain ⟨l, r, hl, e1, e2⟩ := hs
  have hna := hAa.1
  have hr := (hAa.2.2 _ _ _ e1).2.2
  rw [← h4, nw_step hAb hnb] at e2
  have hN := nw_lt nb gb eb (v ++ [l])
  have hp : pth ea (v ++ [l]) fr r := pth_j h5 ⟨r, e1, rfl⟩
  by_cases hc : x / 19683 % 2 = 1 ∨ ga r = true
  · rw [if_pos hc] at e2
    obtain ⟨c1, c2, c3, c4⟩ := code_at (r := r) (f := 1) (by omega) hN
    refine ⟨by omega, by rw [e2, c1, c3]; exact hr, v ++ [l], fun k hk => ?_, by rw [e2, c2], by rw [e2, c1, c3]; exact hp, fun _ => ?_⟩
    · rcases List.mem_append.mp hk with e | e
      · exact h3 k e
      · rw [List.mem_singleton.mp e]; exact hl
    · rw [e2, c1, c3]
      rcases hc with hc | hc
      · exact gth_l (h6 hc) ⟨r, e1, rfl⟩
      · exact pth_good _ _ _ (by simp) hc hp
  · rw [if_neg hc] at e2
    obtain ⟨c1, c2, c3, c4⟩ := code_at (r := r) (f := 0) (by omega) hN
    refine ⟨by omega, by rw [e2, c1, c3]; exact hr, v ++ [l], fun k hk => ?_, by rw [e2, c2], by rw [e2, c1, c3]; exact hp, fun h => ?_⟩
    · rcases List.mem_append.mp hk with e | e
      · exact h3 k e
      · rw [List.mem_singleton.mp e]; exact hl
    · rw [e2, c1, c4] at h; omega
/-- a set that holds the empty word's code and is closed holds the codes of all words -/
theorem Sd_all (hAa : AOK na ga ea) (hAb : AOK nb gb eb) (hnb : nb ≤ 3) {fr : Nat} (S : Nat → Prop) (h0 : S (19683 * (2 * fr + 0) + nw nb gb eb [])) (hc : ∀ x, S x → ∀ y, sx ga ea nb gb eb x y → S y) : ∀ (v : List Nat) (r : Nat), lets v → (pth ea v fr r → S (19683 * (2 * r + 0) + nw nb gb eb v) ∨ S (19683 * (2 * r + 1) + nw nb gb eb v)) ∧ (gth ea ga v fr r → S (19683 * (2 * r + 1) + nw nb gb eb v)) := by
  have stp : ∀ (v : List Nat) (m r l f : Nat), f < 2 → l < 2 → ea l m r = true → S (19683 * (2 * m + f) + nw nb gb eb v) → S (19683 * (2 * r + (if f = 1 ∨ ga r = true then 1 else 0)) + nw nb gb eb (v ++ [l])) := fun v m r l f hf hl he h => by
    refine hc _ h _ ⟨l, r, hl, ?_, ?_⟩
    · obtain ⟨c1, c2, c3, c4⟩ := code_at (r := m) (f := f) hf (nw_lt nb gb eb v)
      rw [c1, c3]; exact he
    · obtain ⟨c1, c2, c3, c4⟩ := code_at (r := m) (f := f) hf (nw_lt nb gb eb v)
      rw [c1, c2, c4, nw_step hAb hnb]
  have key : ∀ (w u : List Nat), lets w → (∀ r, (pth ea u fr r → S (19683 * (2 * r + 0) + nw nb gb eb u) ∨ S (19683 * (2 * r + 1) + nw nb gb eb u)) ∧ (gth ea ga u fr r → S (19683 * (2 * r + 1) + nw nb gb eb u))) → ∀ r, (pth ea (u ++ w) fr r → S (19683 * (2 * r + 0) + nw nb gb eb (u ++ w)) ∨ S (19683 * (2 * r + 1) + nw nb gb eb (u ++ w))) ∧ (gth ea ga (u ++ w) fr r → S (19683 * (2 * r + 1) + nw nb gb eb (u ++ w))) := by
    intro w
    induction w with
    | nil => intro u _ h; rw [List.append_nil]; exact h
    | cons l w ih =>
      intro u hw h
      have hl := hw l (List.mem_cons_self ..)
      rw [show u ++ l :: w = (u ++ [l]) ++ w by simp]
      refine ih (u ++ [l]) (fun k hk => hw k (List.mem_cons_of_mem _ hk)) fun r => ⟨fun hp => ?_, fun hg => ?_⟩
      · obtain ⟨m, p1, y, p2, p3⟩ := (pth_app u [l] fr r).mp hp
        have p3 : y = r := p3
        subst p3
        rcases (h m).1 p1 with h1 | h1
        · have := stp u m y l 0 (by omega) hl p2 h1
          by_cases hc : ga y = true
          · rw [if_pos (Or.inr hc)] at this; exact Or.inr this
          · rw [if_neg (by rintro (h | h); omega; exact hc h)] at this; exact Or.inl this
        · have := stp u m y l 1 (by omega) hl p2 h1
          rw [if_pos (Or.inl rfl)] at this; exact Or.inr this
      · obtain ⟨m, ⟨p1, y, p2, p3⟩ | ⟨p1, y, p2, p3⟩⟩ := (gth_app u [l] fr r).mp hg
        · have p3 : y = r := p3
          subst p3
          have := stp u m y l 1 (by omega) hl p2 ((h m).2 p1)
          rw [if_pos (Or.inl rfl)] at this; exact this
        · rcases p3 with ⟨p4, p3⟩ | p3
          · have p3 : y = r := p3
            subst p3
            rcases (h m).1 p1 with h1 | h1
            · have := stp u m y l 0 (by omega) hl p2 h1
              rw [if_pos (Or.inr p4)] at this; exact this
            · have := stp u m y l 1 (by omega) hl p2 h1
              rw [if_pos (Or.inl rfl)] at this; exact this
          · exact p3.elim
  intro v r hv
  have := key v [] hv (fun r => ⟨fun h => ?_, fun h => h.elim⟩) r
  · rw [List.nil_append] at this; exact this
  · have h : fr = r := h
    subst h; exact Or.inl h0
end SDX
/-! the empty word's number -/
theorem power_eq {m : Nat} (hm : m ≤ 8) : m_M_power (nI m) = some (nI (3 ^ m)) := by
  have h : ∃ r, lp (b_M_power_4 (nI m)) (1, 0) = some r ∧ r.1 = nI (3 ^ m) := by
    refine lp_for m (fun k s => s.2 = nI k ∧ s.1 = nI (3 ^ k)) _ (fun k s hk h => ?_) (fun s h => ?_) (k := 0) ⟨rfl, rfl⟩ (by omega) (by omega)
    · obtain ⟨x, i0⟩ := s
      obtain ⟨h1, h2⟩ := h
      have h1 : i0 = nI k := h1
      have h2 : x = nI (3 ^ k) := h2
      subst h1 h2
      refine Or.inl ⟨(nI (3 ^ (k + 1)), nI (k + 1)), ?_, rfl, rfl⟩
      unfold b_M_power_4
      dsimp only
      rw [if_lt hk (by omega) rfl, i3, nI_inc, Nat.pow_succ, Nat.mul_comm]
    · obtain ⟨x, i0⟩ := s
      obtain ⟨h1, h2⟩ := h
      have h1 : i0 = nI m := h1
      subst h1
      refine ⟨(x, nI m), ?_, h2⟩
      unfold b_M_power_4
      dsimp only
      rw [if_ge (Nat.le_refl _) (by omega) rfl]
  obtain ⟨r, h1, h2⟩ := h
  unfold m_M_power
  rw [h1, bd_some, h2]
def sn (n : Nat) : Nat → Nat
  | 0 => 0
  | m + 1 => sn n m + (if 2 - m < n then 3 ^ (4 * (2 - m)) else 0)
theorem sn_nw {n : Nat} (hn : n ≤ 3) (g : Nat → Bool) (e : Ed) : sn n 3 = nw n g e [] := by
  unfold nw nm dn
  simp only [dg_nil]
  rcases (show n = 0 ∨ n = 1 ∨ n = 2 ∨ n = 3 by omega) with rfl | rfl | rfl | rfl <;> decide
theorem none_eq {M : Mm} {b n : Nat} {g : Nat → Bool} {e : Ed} (hb : b < 6) (hn : n ≤ 3) (hR : RP M b n g e) : ∃ r, lp (b_M_gather_39 (nI b) M) (0, 2) = some r ∧ r.1 = nI (nw n g e []) := by
  refine lp_for 3 (fun m s => s.2 = nI (3 - m) - 1 ∧ s.1 = nI (sn n m)) _ (fun m s hm h => ?_) (fun s h => ?_) (k := 0) ⟨by decide, rfl⟩ (by omega) (by omega)
  · obtain ⟨x, i0⟩ := s
    obtain ⟨h3, h4⟩ := h
    have h3 : i0 = nI (3 - m) - 1 := h3
    have h4 : x = nI (sn n m) := h4
    obtain ⟨k, hk⟩ : ∃ k, 3 - m = k + 1 := ⟨2 - m, by omega⟩
    rw [hk, nI_pred] at h3
    subst h3 h4
    have hk2 : 3 - (m + 1) = k := by omega
    have hk3 : 2 - m = k := by omega
    refine Or.inl ⟨(nI (sn n (m + 1)), nI k - 1), ?_, by rw [hk2], rfl⟩
    unfold b_M_gather_39
    dsimp only
    rw [if_neg (nI_pos (by omega)), ck_of (sz_in hb), nI_clamp (by omega), hR.1]
    show _ = some (Sum.inl (nI (sn n m + (if 2 - m < n then 3 ^ (4 * (2 - m)) else 0)), nI k - 1))
    rw [hk3]
    by_cases hc : k < n
    · rw [if_neg (nI_ge hc (by omega)), i4, power_eq (by omega), bd_some, nI_add, if_pos hc, m1_eq]
    · rw [if_pos (nI_le (by omega) (by omega)), if_neg hc, m1_eq]
      rfl
  · obtain ⟨x, i0⟩ := s
    obtain ⟨h3, h4⟩ := h
    have h3 : i0 = nI (3 - 3) - 1 := h3
    have h4 : x = nI (sn n 3) := h4
    subst h3 h4
    refine ⟨(nI (sn n 3), nI 0 - 1), ?_, by rw [sn_nw hn g e]⟩
    unfold b_M_gather_39
    dsimp only
    rw [if_pos m1_neg]
