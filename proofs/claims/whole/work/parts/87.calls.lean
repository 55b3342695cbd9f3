/-! unite, trim, empty, takes -/
theorem AOK_ap {n0 n1 : Nat} {g0 g1 : Nat → Bool} {e0 e1 : Ed} (h0 : AOK n0 g0 e0) (h1 : AOK n1 g1 e1) (hp : 0 < n0) (hn : n0 + n1 ≤ 4) : AOK (n0 + n1) (apG n0 g0 g1) (apE n0 e0 e1) := by
  refine ⟨hn, fun q hq => ?_, fun l p q he => ?_⟩
  · simp only [apG, Bool.or_eq_true, Bool.and_eq_true, decide_eq_true_eq] at hq
    rcases hq with hq | ⟨h2, hq⟩
    · have := h0.2.1 q hq; omega
    · have := h1.2.1 _ hq; omega
  · simp only [apE, Bool.or_eq_true, Bool.and_eq_true, decide_eq_true_eq] at he
    rcases he with he | ⟨h2, ⟨h3, he⟩ | ⟨h3, he⟩⟩
    · have := h0.2.2 _ _ _ he; omega
    · have := h1.2.2 _ _ _ he; omega
    · have := h1.2.2 _ _ _ he; omega
theorem frm_uA {j : Nat} {M A : Mm} (h : Frm (uA j) M A) : Frm (fun z => uA j z ∨ uA 6 z) M A := h.mono fun z hz => Or.inl hz
theorem CP_uA {M A : Mm} {i j n : Nat} {g : Nat → Bool} {e : Ed} (hij : i ≠ j) (h : CP M i n g e) (hF : Frm (uA j) M A) : CP A i n g e := CP_frm h hF (by
  rintro (h | h) <;> (have q1 := congrArg Prod.fst h; have q2 := congrArg Prod.snd h; simp only at q1 q2; omega)) (by
  rintro (h | h) <;> (have q1 := congrArg Prod.fst h; have q2 := congrArg Prod.snd h; simp only at q1 q2; omega))
theorem th1 (M : Mm) : ¬ (uI M (8, 0) 0 1).1 (8, 0) 0 ≤ 0 := by rw [uI_at]; decide
theorem th2 (M : Mm) : ¬ (uI M (8, 0) 0 2).1 (8, 0) 0 ≤ 0 := by rw [uI_at]; decide
theorem th0 (M : Mm) : (uI M (8, 0) 0 0).1 (8, 0) 0 ≤ 0 := by rw [uI_at]; exact Int32.le_refl _
theorem tq0 (M : Mm) : (uI M (8, 0) 0 0).1 (8, 0) 0 = 0 := uI_at _ _ _ _
theorem tq1 (M : Mm) : ¬ (uI M (8, 0) 0 1).1 (8, 0) 0 = 0 := by rw [uI_at]; decide
theorem s_unite {M : Mm} (hI : Inv M) (x y z : Int32) : ∃ k M1 b M2, m_L_unite x y z 3 M = some (k, M1) ∧ m_M_unite x y z M1 = some (b, M2) ∧ OkI k b M2 := by
  have bad : m_D_unite x y z M = some (.inr (1, M)) → m_M_unite x y z M = some (0, uI M (8, 0) 0 1) → ∃ k M1 b M2, m_L_unite x y z 3 M = some (k, M1) ∧ m_M_unite x y z M1 = some (b, M2) ∧ OkI k b M2 := fun h1 h2 => by
    refine ⟨1, M, 0, uI M (8, 0) 0 1, ?_, h2, uI_at _ _ _ _, fun h => absurd h (by decide), Inv_th hI 1⟩
    unfold m_L_unite
    rw [h1, bd_some, smi, if_pos rfl]
  rcases ixc x (n := 6) (by omega) with hb | ⟨j1, hj1, rfl⟩
  · refine bad ?_ ?_
    · unfold m_D_unite; rw [at_bad hb, bd_some, smi]
    · unfold m_M_unite; rw [out6_bad hb, bd_some, if_neg bIt, bd_some, if_neg (th1 M)]
  rcases ixc y (n := 6) (by omega) with hb | ⟨j2, hj2, rfl⟩
  · refine bad ?_ ?_
    · unfold m_D_unite; rw [at_ok hj1, bd_some, sml, ck_of (dec7 hj1), at_bad hb, bd_some, smi]
    · unfold m_M_unite; rw [out6_ok hj1, bd_some, if_pos bIf, out6_bad hb, bd_some, if_neg bIt, bd_some, if_neg (th1 M)]
  rcases ixc z (n := 6) (by omega) with hb | ⟨j3, hj3, rfl⟩
  · refine bad ?_ ?_
    · unfold m_D_unite; rw [at_ok hj1, bd_some, sml, ck_of (dec7 hj1), at_ok hj2, bd_some, sml, ck_of (dec7 hj2), at_bad hb, bd_some, smi]
    · unfold m_M_unite; rw [out6_ok hj1, bd_some, if_pos bIf, out6_ok hj2, bd_some, if_pos bIf, out6_bad hb, bd_some, if_neg bIt, bd_some, if_neg (th1 M)]
  have eqi : ∀ {a b : Nat}, a < 6 → b < 6 → a ≠ b → ¬ nI a = nI b := fun ha hb h he => h ((nI_eq (by omega) (by omega)).mp he)
  by_cases e12 : j1 = j2
  · subst e12
    refine bad ?_ ?_
    · unfold m_D_unite; rw [at_ok hj1, bd_some, sml, ck_of (dec7 hj1), bd_some, sml, ck_of (dec7 hj1), at_ok hj3, bd_some, sml, ck_of (dec7 hj3), if_pos rfl]
    · unfold m_M_unite; rw [out6_ok hj1, bd_some, if_pos bIf, bd_some, if_pos bIf, out6_ok hj3, bd_some, if_pos bIf, if_pos rfl, bd_some, if_neg (th1 M)]
  by_cases e13 : j1 = j3
  · subst e13
    refine bad ?_ ?_
    · unfold m_D_unite; rw [at_ok hj1, bd_some, sml, ck_of (dec7 hj1), at_ok hj2, bd_some, sml, ck_of (dec7 hj2), bd_some, sml, ck_of (dec7 hj1), if_neg (eqi hj1 hj2 e12), if_pos rfl]
    · unfold m_M_unite; rw [out6_ok hj1, bd_some, if_pos bIf, out6_ok hj2, bd_some, if_pos bIf, bd_some, if_pos bIf, if_neg (eqi hj1 hj2 e12), if_pos rfl, bd_some, if_neg (th1 M)]
  by_cases e23 : j2 = j3
  · subst e23
    refine bad ?_ ?_
    · unfold m_D_unite; rw [at_ok hj1, bd_some, sml, ck_of (dec7 hj1), at_ok hj2, bd_some, sml, ck_of (dec7 hj2), bd_some, sml, ck_of (dec7 hj2), if_neg (eqi hj1 hj2 e12), if_neg (eqi hj1 hj2 e13), if_pos rfl]
    · unfold m_M_unite; rw [out6_ok hj1, bd_some, if_pos bIf, out6_ok hj2, bd_some, if_pos bIf, bd_some, if_pos bIf, if_neg (eqi hj1 hj2 e12), if_neg (eqi hj1 hj2 e13), if_pos rfl, bd_some, if_neg (th1 M)]
  clear bad
  obtain ⟨⟨n, g, e, h1⟩, h2⟩ := hI
  obtain ⟨p1, p2, p3⟩ := h1 j1 hj1
  obtain ⟨q1, q2, q3⟩ := h1 j2 hj2
  have hn1 := p1.1
  have hn2 := q1.1
  have hsum : ((1 : Int32) + nI (n j1)) + nI (n j2) = nI (1 + n j1 + n j2) := by rw [show (1 : Int32) = nI 1 from rfl, nI_add, nI_add]
  by_cases h4 : 1 + n j1 + n j2 ≤ 4
  · obtain ⟨A1, a1, a2, a3⟩ := wipe_eq (show j3 < 7 by omega) M
    obtain ⟨A2, b1, b2, b3⟩ := addState_eq a2 (by omega) false
    have hF2 := a3.trans b3
    have K1 : AOK (0 + 1) (addG noG 0 false) noE := AOK_add AOK_0 (by omega) false
    obtain ⟨A3, c1, c2, c3⟩ := append_eq (show j1 < 7 by omega) (show j3 < 7 by omega) e13 b2 (CP_uA e13 p2 hF2) p1 (by omega)
    have K2 := AOK_ap K1 p1 (by omega) (by omega)
    obtain ⟨A4, d1, d2, d3⟩ := append_eq (show j2 < 7 by omega) (show j3 < 7 by omega) e23 c2 (CP_uA e23 q2 (hF2.trans c3)) q1 (by omega)
    have K3 := AOK_ap K2 q1 (by omega) (by omega)
    have hF := frm_uA ((hF2.trans c3).trans d3)
    let v : Int64 := (nI (0 + 1 + n j1 + n j2)).toInt64
    let C := uI (uL A4 (2, 3) 0 v) (8, 0) 0 0
    have r1 : RP C j1 (n j1) (g j1) (e j1) := RP_th (RP_cls hj3 hF p3)
    have r2 : RP C j2 (n j2) (g j2) (e j2) := RP_th (RP_cls hj3 hF q3)
    have f0 : RF j3 C (uI C (1, 18) j3 0) := RF.u18 _ _
    obtain ⟨D1, s1, s2, s3⟩ := add_eq (M := uI C (1, 18) j3 0) (RP_0 (uI_at _ _ _ _) noG noE) hj3 (by omega) rfl (fun _ _ => rfl) false
    have f1 := f0.trans s3
    obtain ⟨D2, t1, t2, t3⟩ := appendM_eq hj1 hj3 e13 (by omega) s2 K1 (RP_RF r1 f1 e13 hn1) p1 (by omega)
    obtain ⟨D3, u1, u2, u3⟩ := appendM_eq hj2 hj3 e23 (by omega) t2 K2 (RP_RF r2 (f1.trans t3) e23 hn2) q1 (by omega)
    have hRF : RF j3 C D3 := (f1.trans t3).trans u3
    obtain ⟨o1, o2⟩ := RF_out hRF
    refine ⟨0, uL A4 (2, 3) 0 v, nI (0 + 1 + n j1 + n j2), D3, ?_, ?_, o1, fun _ => o2, Inv_upd hj3 h1 h2 K3 d2 hF u2 hRF⟩
    · unfold m_L_unite m_D_unite
      rw [at_ok hj1, bd_some, sml, ck_of (dec7 hj1), at_ok hj2, bd_some, sml, ck_of (dec7 hj2), at_ok hj3, bd_some, sml, ck_of (dec7 hj3), if_neg (eqi hj1 hj2 e12), if_neg (eqi hj1 hj3 e13), if_neg (eqi hj2 hj3 e23), p2.1, q2.1, hsum, if_pos (show nI (1 + n j1 + n j2) ≤ (4 : Int32) from nI_le (b := 4) h4 (by decide)), a1, bd_some, b1, bd_some, c1, bd_some, d1, bd_some, bd_some, sml, ck_of inL3, bd_some, cl0, d2.1]
    · have e1 : (uL A4 (2, 3) 0 v).1 (1, 18) j1 = nI (n j1) := (RP_cls hj3 hF p3).1
      have e2 : (uL A4 (2, 3) 0 v).1 (1, 18) j2 = nI (n j2) := (RP_cls hj3 hF q3).1
      unfold m_M_unite
      rw [out6_ok hj1, bd_some, if_pos bIf, out6_ok hj2, bd_some, if_pos bIf, out6_ok hj3, bd_some, if_pos bIf, if_neg (eqi hj1 hj2 e12), if_neg (eqi hj1 hj3 e13), if_neg (eqi hj2 hj3 e23), ck_of (sz_in hj1), ck_of (sz_in hj2), nI_clamp (show j1 < 2 ^ 31 by omega), nI_clamp (show j2 < 2 ^ 31 by omega), nI_clamp (show j3 < 2 ^ 31 by omega), e1, e2, hsum, if_pos (show nI (1 + n j1 + n j2) ≤ (4 : Int32) from nI_le (b := 4) h4 (by decide)), bd_some, if_pos (th0 _), ck_of (sz_in hj3), bd_some, s1, bd_some, t1, bd_some, u1, bd_some, ck_of (sz_in hj3), u2.1]
  · refine ⟨2, M, 0, uI M (8, 0) 0 2, ?_, ?_, uI_at _ _ _ _, fun h => absurd h (by decide), Inv_th ⟨⟨n, g, e, h1⟩, h2⟩ 2⟩
    · unfold m_L_unite m_D_unite
      rw [at_ok hj1, bd_some, sml, ck_of (dec7 hj1), at_ok hj2, bd_some, sml, ck_of (dec7 hj2), at_ok hj3, bd_some, sml, ck_of (dec7 hj3), if_neg (eqi hj1 hj2 e12), if_neg (eqi hj1 hj3 e13), if_neg (eqi hj2 hj3 e23), p2.1, q2.1, hsum, if_neg (show ¬ nI (1 + n j1 + n j2) ≤ (4 : Int32) from nI_ge (a := 4) (by omega) (by omega)), bd_some, smi, if_neg (show ¬ (2 : Nat) = 1 by decide), if_pos rfl]
    · unfold m_M_unite
      rw [out6_ok hj1, bd_some, if_pos bIf, out6_ok hj2, bd_some, if_pos bIf, out6_ok hj3, bd_some, if_pos bIf, if_neg (eqi hj1 hj2 e12), if_neg (eqi hj1 hj3 e13), if_neg (eqi hj2 hj3 e23), ck_of (sz_in hj1), ck_of (sz_in hj2), nI_clamp (show j1 < 2 ^ 31 by omega), nI_clamp (show j2 < 2 ^ 31 by omega), p3.1, q3.1, hsum, if_neg (show ¬ nI (1 + n j1 + n j2) ≤ (4 : Int32) from nI_ge (a := 4) (by omega) (by omega)), bd_some, if_neg (th2 M)]
/-! trim, empty -/
theorem useful_num {n : Nat} {g : Nat → Bool} {e : Ed} {r : Int32} (hA : AOK n g e) (h : ∀ i, bt r i = true ↔ Lv n g e i) : ∃ K, K < 16 ∧ r = nI K := low4 fun i _ hb => by
  have := ((h i).mp hb).1
  have := hA.1
  omega
theorem s_trim {M : Mm} (hI : Inv M) (x : Int32) : ∃ k M1 b M2, m_L_trim x 3 M = some (k, M1) ∧ m_M_trim x M1 = some (b, M2) ∧ OkI k b M2 := by
  rcases ixc x (n := 6) (by omega) with hb | ⟨j, hj, rfl⟩
  · refine ⟨1, M, 0, uI M (8, 0) 0 1, ?_, ?_, uI_at _ _ _ _, fun h => absurd h (by decide), Inv_th hI 1⟩
    · unfold m_L_trim m_D_trim
      rw [at_bad hb, bd_some, smi, bd_some, smi, if_pos rfl]
    · unfold m_M_trim
      rw [out6_bad hb, bd_some, if_neg bIt, bd_some, if_neg (th1 M)]
  · obtain ⟨⟨n, g, e, h1⟩, h2⟩ := hI
    obtain ⟨p1, p2, p3⟩ := h1 j hj
    obtain ⟨A1, a1, a2, a3⟩ := copy_eq hj p2
    obtain ⟨r, b1, b2⟩ := useful_eq (show 6 < 7 by omega) p1 a2
    obtain ⟨K, hK, rfl⟩ := useful_num p1 b2
    obtain ⟨A2, c1, c2, c3⟩ := becomePart_eq (show 6 < 7 by omega) (show j < 7 by omega) (show 6 ≠ j by omega) a2 p1 hK
    have hF : Frm (fun z => uA j z ∨ uA 6 z) M A2 := (a3.mono fun z hz => Or.inr hz).trans (c3.mono fun z hz => Or.inl hz)
    let v : Int64 := (nI (cnt K (n j))).toInt64
    let C := uI (uL A2 (2, 3) 0 v) (8, 0) 0 0
    have r1 : RP C j (n j) (g j) (e j) := RP_th (RP_cls hj hF p3)
    obtain ⟨w, w1, w2⟩ := living_eq p1 r1 hj
    have ew : w = nI K := b_ext fun i _ => by rw [Bool.eq_iff_iff, w2 i, b2 i]
    rw [ew] at w1
    obtain ⟨t, t1, t2, t3, t4⟩ := trimM_eq hj r1 p1 hK
    have hRF : RF j C (uI (uI t.2.2.2 (1, 18) j t.1) (1, 17) j t.2.1) := (t3.trans (RF.u18 _ _)).trans (RF.u17 _ _)
    obtain ⟨o1, o2⟩ := RF_out hRF
    refine ⟨0, uL A2 (2, 3) 0 v, nI (cnt K (n j)), _, ?_, ?_, o1, fun _ => o2, Inv_upd hj h1 h2 (trim_AOK p1) c2 hF t4 hRF⟩
    · unfold m_L_trim m_D_trim
      rw [at_ok hj, bd_some, sml, ck_of (dec7 hj), a1, bd_some, b1, bd_some, c1, bd_some, bd_some, sml, ck_of inL3, bd_some, cl0, c2.1]
    · unfold m_M_trim
      rw [out6_ok hj, bd_some, if_pos bIf, bd_some, if_pos (th0 _), w1, bd_some, t1, bd_some, ck_of (sz_in hj), bd_some, ck_of (gd_in hj), bd_some, nI_clamp (by omega), t2]
theorem OkB_same {M : Mm} (hI : Inv M) (f : Bool) {v : Int64} (hv : v = if bI f = 0 then 0 else 1) : OkB 0 f (uI (uL M (2, 3) 0 v) (8, 0) 0 0) := by
  refine ⟨uI_at _ _ _ _, fun _ => ?_, Inv_th (Inv_out hI v) 0⟩
  rw [← hv]
  show (uL M (2, 3) 0 v).2 (2, 3) 0 = v
  exact uL_at _ _ _ _
theorem OkI_same {M : Mm} (hI : Inv M) (b : Int32) : OkI 0 b (uI (uL M (2, 3) 0 b.toInt64) (8, 0) 0 0) := by
  refine ⟨uI_at _ _ _ _, fun _ => ?_, Inv_th (Inv_out hI _) 0⟩
  show (uL M (2, 3) 0 b.toInt64).2 (2, 3) 0 = b.toInt64
  exact uL_at _ _ _ _
theorem OkB_bad {M : Mm} (hI : Inv M) : OkB 1 false (uI M (8, 0) 0 1) := ⟨uI_at _ _ _ _, fun h => absurd h (by decide), Inv_th hI 1⟩
theorem OkI_bad {M : Mm} (hI : Inv M) : OkI 1 0 (uI M (8, 0) 0 1) := ⟨uI_at _ _ _ _, fun h => absurd h (by decide), Inv_th hI 1⟩
theorem OkI_bad2 {M : Mm} (hI : Inv M) : OkI 2 0 (uI M (8, 0) 0 2) := ⟨uI_at _ _ _ _, fun h => absurd h (by decide), Inv_th hI 2⟩
theorem s_empty {M : Mm} (hI : Inv M) (x : Int32) : ∃ k M1 b M2, m_L_empty x 3 M = some (k, M1) ∧ m_M_empty x M1 = some (b, M2) ∧ OkB k b M2 := by
  rcases ixc x (n := 6) (by omega) with hb | ⟨j, hj, rfl⟩
  · refine ⟨1, M, false, uI M (8, 0) 0 1, ?_, ?_, OkB_bad hI⟩
    · unfold m_L_empty m_D_empty
      rw [at_bad hb, bd_some, smi, bd_some, smi, if_pos rfl]
    · unfold m_M_empty
      rw [out6_bad hb, bd_some, if_neg bIt, bd_some, if_neg (tq1 M)]
  · have hI' := hI
    obtain ⟨⟨n, g, e, h1⟩, h2⟩ := hI
    obtain ⟨p1, p2, p3⟩ := h1 j hj
    obtain ⟨r, b1, b2⟩ := useful_eq (show j < 7 by omega) p1 p2
    have key : ∀ v : Int64, m_M_living (nI j) (uI (uL M (2, 3) 0 v) (8, 0) 0 0) = some r := fun v => by
      obtain ⟨w, w1, w2⟩ := living_eq p1 (RP_th (v := v) (k := 0) p3) hj
      have ew : w = r := b_ext fun i _ => by rw [Bool.eq_iff_iff, w2 i, b2 i]
      rw [← ew]; exact w1
    by_cases hz : r = 0
    · refine ⟨0, uL M (2, 3) 0 1, true, _, ?_, ?_, OkB_same (v := 1) hI' true rfl⟩
      · unfold m_L_empty m_D_empty
        rw [at_ok hj, bd_some, sml, ck_of (dec7 hj), b1, bd_some, if_pos hz, bd_some, sml, if_neg bIt, ck_of inL3, bd_some, cl0]
      · unfold m_M_empty
        rw [out6_ok hj, bd_some, if_pos bIf, bd_some, if_pos (tq0 _), key, bd_some, if_pos hz]
    · refine ⟨0, uL M (2, 3) 0 0, false, _, ?_, ?_, OkB_same (v := 0) hI' false rfl⟩
      · unfold m_L_empty m_D_empty
        rw [at_ok hj, bd_some, sml, ck_of (dec7 hj), b1, bd_some, if_neg hz, bd_some, sml, if_pos bIf, ck_of inL3, bd_some, cl0]
      · unfold m_M_empty
        rw [out6_ok hj, bd_some, if_pos bIf, bd_some, if_pos (tq0 _), key, bd_some, if_neg hz]
/-! takes -/
theorem word_eq {m : Nat} (hm : m ≤ 8) (u : Int32) : ∃ f, m_D_isWord (nI m) u = some f ∧ ∀ least : Nat, least ≤ m → m_M_isWord (nI m) u (nI least) = some f := by
  unfold m_D_isWord m_M_isWord
  have h8 : ¬ (8 : Int32) < nI m := nI_nlt (a := 8) (b := m) hm (by decide)
  by_cases h0 : u < 0
  · rw [if_pos h0]
    refine ⟨false, rfl, fun least hl => ?_⟩
    rw [if_neg (nI_nlt hl (by omega)), if_neg h8, if_pos h0]
  · obtain ⟨k, hk, rfl⟩ := nI_of h0
    rw [if_neg h0, (p2 m (by omega)).1]
    have hp := p2_le hm
    by_cases hw : 2 ^ m ≤ k
    · rw [if_pos (nI_le hw hk)]
      refine ⟨false, rfl, fun least hl => ?_⟩
      rw [if_neg (nI_nlt hl (by omega)), if_neg h8, if_neg h0, sh_div hk (by omega), if_neg (nI_ne0 (Nat.div_pos hw (Nat.two_pow_pos m)) (Nat.lt_of_le_of_lt (Nat.div_le_self _ _) hk))]
    · rw [if_neg (nI_ge (by omega) (by omega))]
      refine ⟨true, rfl, fun least hl => ?_⟩
      rw [if_neg (nI_nlt hl (by omega)), if_neg h8, if_neg h0, sh_div hk (by omega), Nat.div_eq_of_lt (by omega), if_pos (show nI 0 = (0 : Int32) from rfl)]
theorem word_bad {x u : Int32} {least : Nat} (hl : least < 2 ^ 31) (h : x < nI least ∨ (8 : Int32) < x) : m_M_isWord x u (nI least) = some false := by
  unfold m_M_isWord
  by_cases h0 : x < nI least
  · rw [if_pos h0]
  · rw [if_neg h0, if_pos (h.resolve_left h0)]
theorem s_takes {M : Mm} (hI : Inv M) (x m u k v : Int32) : ∃ c M1 b M2, m_L_takes x m u k v 3 M = some (c, M1) ∧ m_M_takes x m u k v M1 = some (b, M2) ∧ OkB c b M2 := by
  have bad : m_D_takes x m u k v M = some (.inr (1, M)) → m_M_takes x m u k v M = some (false, uI M (8, 0) 0 1) → ∃ c M1 b M2, m_L_takes x m u k v 3 M = some (c, M1) ∧ m_M_takes x m u k v M1 = some (b, M2) ∧ OkB c b M2 := fun h1 h2 => by
    refine ⟨1, M, false, uI M (8, 0) 0 1, ?_, h2, OkB_bad hI⟩
    unfold m_L_takes
    rw [h1, bd_some, smi, if_pos rfl]
  rcases ixc x (n := 6) (by omega) with hb | ⟨j, hj, rfl⟩
  · refine bad ?_ ?_
    · unfold m_D_takes; rw [at_bad hb, bd_some, smi]
    · unfold m_M_takes; rw [out6_bad hb, bd_some, if_neg bIt, bd_some, if_neg (tq1 M)]
  -- the reference refuses when a word is none
  have refA : m_M_isWord m u 0 = some false → m_M_takes (nI j) m u k v M = some (false, uI M (8, 0) 0 1) := fun h => by
    unfold m_M_takes; rw [out6_ok hj, bd_some, if_pos bIf, h, bd_some, if_pos bIf, bd_some, if_neg (tq1 M)]
  have refB : (∃ f, m_M_isWord m u 0 = some f) → m_M_isWord k v 1 = some false → m_M_takes (nI j) m u k v M = some (false, uI M (8, 0) 0 1) := fun ⟨f, hf⟩ h => by
    cases f with
    | false => exact refA hf
    | true => unfold m_M_takes; rw [out6_ok hj, bd_some, if_pos bIf, hf, bd_some, if_neg bIt, h, bd_some, if_pos bIf, bd_some, if_neg (tq1 M)]
  have total : ∃ f, m_M_isWord m u 0 = some f := by
    unfold m_M_isWord
    by_cases h0 : m < 0
    · exact ⟨false, by rw [if_pos h0]⟩
    · by_cases h1 : (8 : Int32) < m
      · exact ⟨false, by rw [if_neg h0, if_pos h1]⟩
      · by_cases h2 : u < 0
        · exact ⟨false, by rw [if_neg h0, if_neg h1, if_pos h2]⟩
        · by_cases h3 : (u >>> (m &&& 31)) = 0
          · exact ⟨true, by rw [if_neg h0, if_neg h1, if_neg h2, if_pos h3]⟩
          · exact ⟨false, by rw [if_neg h0, if_neg h1, if_neg h2, if_neg h3]⟩
  have pre : ∀ X, m_D_takes (nI j) m u k v M = X ↔ (if m < 0 then some (Sum.inr (1, M)) else if (8 : Int32) < m then some (Sum.inr (1, M)) else if k < (1 : Int32) then some (Sum.inr (1, M)) else if k ≤ (8 : Int32) then (bd (m_D_isWord m u) fun r4 => if (bI r4) = 0 then some (Sum.inr (1, M)) else bd (m_D_isWord k v) fun r5 => if (bI r5) = 0 then some (Sum.inr (1, M)) else bd (m_A_passageOf j m u M) fun r6 => bd (m_A_passageOf j k v M) fun r7 => bd (m_P_fromStart r6) fun r8 => bd (m_P_takenRepeated r7) fun r9 => if (r8 &&& r9) = 0 then some (Sum.inl false) else some (Sum.inl true)) else some (Sum.inr (1, M))) = X := fun X => by
    unfold m_D_takes; rw [at_ok hj, bd_some, sml, ck_of (dec7 hj)]
  by_cases hm0 : m < 0
  · exact bad ((pre _).mpr (by rw [if_pos hm0])) (refA (word_bad (least := 0) (by omega) (Or.inl hm0)))
  by_cases hm8 : (8 : Int32) < m
  · exact bad ((pre _).mpr (by rw [if_neg hm0, if_pos hm8])) (refA (word_bad (least := 0) (by omega) (Or.inr hm8)))
  by_cases hk1 : k < 1
  · exact bad ((pre _).mpr (by rw [if_neg hm0, if_neg hm8, if_pos hk1])) (refB total (word_bad (least := 1) (by omega) (Or.inl hk1)))
  by_cases hk8 : k ≤ 8
  case neg => exact bad ((pre _).mpr (by rw [if_neg hm0, if_neg hm8, if_neg hk1, if_neg hk8])) (refB total (word_bad (least := 1) (by omega) (Or.inr (Int32.not_le.mp hk8))))
  obtain ⟨m', hm', rfl⟩ : ∃ m', m' ≤ 8 ∧ m = nI m' := nI_of2 (M := 8) (by decide) hm0 (Int32.not_lt.mp hm8)
  obtain ⟨k', hk', rfl⟩ : ∃ k', k' ≤ 8 ∧ k = nI k' := nI_of2 (M := 8) (by decide) (fun h => hk1 (Int32.lt_trans h (by decide))) hk8
  have hkp : 0 < k' := by
    cases k' with
    | zero => exact absurd (show nI 0 < (1 : Int32) by decide) hk1
    | succ k' => omega
  obtain ⟨f1, w1, w2⟩ := word_eq hm' u
  obtain ⟨f2, w3, w4⟩ := word_eq hk' v
  have w2 : m_M_isWord (nI m') u 0 = some f1 := w2 0 (by omega)
  have w4 : m_M_isWord (nI k') v 1 = some f2 := w4 1 (by omega)
  cases f1 with
  | false => exact bad ((pre _).mpr (by rw [if_neg hm0, if_neg hm8, if_neg hk1, if_pos hk8, w1, bd_some, if_pos bIf])) (refA w2)
  | true =>
    cases f2 with
    | false => exact bad ((pre _).mpr (by rw [if_neg hm0, if_neg hm8, if_neg hk1, if_pos hk8, w1, bd_some, if_neg bIt, w3, bd_some, if_pos bIf])) (refB ⟨_, w2⟩ w4)
    | true =>
      clear bad refA refB total
      have hI' := hI
      obtain ⟨⟨n, g, e, h1⟩, h2⟩ := hI
      obtain ⟨p1, p2, p3⟩ := h1 j hj
      obtain ⟨P, P1, P2⟩ := passageOf_eq (show j < 7 by omega) p1 p2 u (m := m') (by omega)
      obtain ⟨Q, Q1, Q2⟩ := passageOf_eq (show j < 7 by omega) p1 p2 v (m := k') (by omega)
      obtain ⟨r, r1, r2⟩ := takenRepeated_eq Q
      have hcl := lasso_class p1 P2 Q2 r2
      have hD : ∀ b, (b = true ↔ Tk (e j) (g j) (wl u m') (wl v k')) → m_D_takes (nI j) (nI m') u (nI k') v M = some (.inl b) := fun b hb => by
        rw [pre]
        rw [if_neg hm0, if_neg hm8, if_neg hk1, if_pos hk8, w1, bd_some, if_neg bIt, w3, bd_some, if_neg bIt, P1, bd_some, Q1, bd_some, fromStart_eq, bd_some, r1, bd_some]
        by_cases hz : (en P 0 &&& r) = 0
        · rw [if_pos hz]
          cases b with
          | false => rfl
          | true => exact absurd hz (hcl.mpr (hb.mp rfl))
        · rw [if_neg hz]
          cases b with
          | true => rfl
          | false => have := hb.mpr (hcl.mp hz); cases this
      have hM : ∀ w : Int64, ∃ b, m_M_takes (nI j) (nI m') u (nI k') v (uL M (2, 3) 0 w) = some (b, uI (uL M (2, 3) 0 w) (8, 0) 0 0) ∧ (b = true ↔ Tk (e j) (g j) (wl u m') (wl v k')) := fun w => by
        obtain ⟨b, c1, c2⟩ := lasso_eq (u := u) (v := v) p1 (RP_th (v := w) (k := 0) p3) hj hm' hkp hk'
        refine ⟨b, ?_, c2⟩
        unfold m_M_takes
        rw [out6_ok hj, bd_some, if_pos bIf, w2, bd_some, if_neg bIt, w4, bd_some, if_neg bIt, bd_some, if_pos (tq0 _), c1, bd_some]
        cases b with
        | false => rw [if_pos bIf]
        | true => rw [if_neg bIt]
      obtain ⟨b0, -, b2⟩ := hM 0
      cases b0 with
      | false =>
        obtain ⟨b, b3, b4⟩ := hM 0
        have eb : b = false := by
          cases b with
          | false => rfl
          | true => have := b2.mpr (b4.mp rfl); cases this
        subst eb
        refine ⟨0, uL M (2, 3) 0 0, false, _, ?_, b3, OkB_same (v := 0) hI' false rfl⟩
        unfold m_L_takes
        rw [hD false b4, bd_some, sml, if_pos bIf, ck_of inL3, bd_some, cl0]
      | true =>
        obtain ⟨b, b3, b4⟩ := hM 1
        have eb : b = true := b4.mpr (b2.mp rfl)
        subst eb
        refine ⟨0, uL M (2, 3) 0 1, true, _, ?_, b3, OkB_same (v := 1) hI' true rfl⟩
        unfold m_L_takes
        rw [hD true b4, bd_some, sml, if_neg bIt, ck_of inL3, bd_some, cl0]
