/-! Int64 by its bits -/
def bl (x : Int64) (i : Nat) : Bool := x.toBitVec.getLsbD i
theorem l_ext {x y : Int64} (h : ∀ i, i < 64 → bl x i = bl y i) : x = y := Int64.toBitVec_inj.mp (BitVec.eq_of_getLsbD_eq (fun i hi => h i hi))
theorem l_or (x y : Int64) (i : Nat) : bl (x ||| y) i = (bl x i || bl y i) := by unfold bl; rw [Int64.toBitVec_or, BitVec.getLsbD_or]
theorem l_and (x y : Int64) (i : Nat) : bl (x &&& y) i = (bl x i && bl y i) := by unfold bl; rw [Int64.toBitVec_and, BitVec.getLsbD_and]
theorem l_big {x : Int64} {i : Nat} (h : 64 ≤ i) : bl x i = false := BitVec.getLsbD_of_ge _ _ h
theorem l_0 (i : Nat) : bl 0 i = false := BitVec.getLsbD_zero
theorem l_1 (i : Nat) : bl 1 i = decide (i = 0) := by
  rcases Nat.lt_or_ge i 64 with h | h
  · exact (by decide +kernel : ∀ i, i < 64 → bl 1 i = decide (i = 0)) i h
  · rw [l_big h, decide_eq_false (by omega)]
theorem l_15 (i : Nat) : bl 15 i = decide (i < 4) := by
  rcases Nat.lt_or_ge i 64 with h | h
  · exact (by decide +kernel : ∀ i, i < 64 → bl 15 i = decide (i < 4)) i h
  · rw [l_big h, decide_eq_false (by omega)]
theorem l_eq0 {x : Int64} : x = 0 ↔ ∀ i, i < 64 → bl x i = false := by
  constructor
  · rintro rfl i -
    exact l_0 i
  · intro h
    exact l_ext fun i hi => by rw [h i hi, l_0]
theorem sl64 : ∀ n, n < 64 → (((nI n).toInt64 &&& 63).toBitVec.smod 64).toNat = n := by decide +kernel
theorem su64 : ∀ n, n < 64 → (((nI n).toInt64.toUInt64 &&& Int64.toUInt64 63).toBitVec % 64).toNat = n := by decide +kernel
theorem l_shl (n : Nat) (hn : n < 64) (x : Int64) {i : Nat} (hi : i < 64) : bl (x <<< ((nI n).toInt64 &&& 63)) i = (decide (n ≤ i) && bl x (i - n)) := by
  unfold bl
  rw [Int64.toBitVec_shiftLeft]
  show (x.toBitVec <<< (((nI n).toInt64 &&& 63).toBitVec.smod 64).toNat).getLsbD i = _
  rw [sl64 n hn, BitVec.getLsbD_shiftLeft]
  rcases Nat.lt_or_ge i n with h | h
  · simp [h, Nat.not_le.mpr h]
  · simp [hi, h, Nat.not_lt.mpr h]
theorem l_ushr (n : Nat) (hn : n < 64) (x : Int64) (i : Nat) : bl ((x.toUInt64 >>> ((nI n).toInt64.toUInt64 &&& Int64.toUInt64 63)).toInt64) i = bl x (n + i) := by
  show (x.toUInt64 >>> ((nI n).toInt64.toUInt64 &&& Int64.toUInt64 63)).toBitVec.getLsbD i = x.toUInt64.toBitVec.getLsbD (n + i)
  rw [UInt64.toBitVec_shiftRight]
  show (x.toUInt64.toBitVec >>> (((nI n).toInt64.toUInt64 &&& Int64.toUInt64 63).toBitVec % 64).toNat).getLsbD i = _
  rw [su64 n hn, BitVec.getLsbD_ushiftRight]
theorem l_sshr (n : Nat) (hn : n < 64) (x : Int64) {i : Nat} (hi : i < 64) : bl (x >>> ((nI n).toInt64 &&& 63)) i = if n + i < 64 then bl x (n + i) else bl x 63 := by
  unfold bl
  rw [Int64.toBitVec_shiftRight]
  show (x.toBitVec.sshiftRight (((nI n).toInt64 &&& 63).toBitVec.smod 64).toNat).getLsbD i = _
  rw [sl64 n hn, BitVec.getLsbD_sshiftRight, BitVec.msb_eq_getLsbD_last]
  simp [hi]
theorem l_i2l (x : Int32) {i : Nat} (hi : i < 64) : bl x.toInt64 i = if i < 32 then bt x i else bt x 31 := by
  unfold bl bt
  rw [Int32.toBitVec_toInt64, BitVec.getLsbD_signExtend, BitVec.msb_eq_getLsbD_last]
  simp [hi]
theorem b_l2i (x : Int64) (i : Nat) : bt x.toInt32 i = (decide (i < 32) && bl x i) := by
  unfold bl bt
  rw [Int64.toBitVec_toInt32, BitVec.getLsbD_signExtend]
  by_cases h : i < 32
  · rw [if_pos (by omega)]
  · simp [h]
theorem lg_0 (x y : Int64) : lg_cmp x y = 0 ↔ x = y := by
  unfold lg_cmp
  by_cases h1 : x > y
  · rw [if_pos h1]
    constructor
    · intro h; exact absurd h (by decide)
    · rintro rfl; exact absurd h1 (fun h => by
        have := Int64.lt_iff_toInt_lt.mp h
        omega)
  · rw [if_neg h1]
    by_cases h2 : x = y
    · rw [if_pos h2]; exact ⟨fun _ => h2, fun _ => rfl⟩
    · rw [if_neg h2]
      constructor
      · intro h; exact absurd h (by decide)
      · intro h; exact absurd h h2
theorem b_tst1 (x : Int32) {k : Nat} (hk : k < 32) : ((x >>> (nI k &&& 31)) &&& 1) = 1 ↔ bt x k = true := by
  rw [bitI x hk]
  unfold lt1
  cases bt x k
  · exact ⟨fun h => absurd h (by decide), fun h => by cases h⟩
  · exact ⟨fun _ => rfl, fun _ => rfl⟩
theorem i4 (k : Nat) : (4 : Int32) * nI k = nI (4 * k) := pk_mul 4 k
/-! the reference's picture of an automaton -/
def RP (M : Mm) (a n : Nat) (g : Nat → Bool) (e : Ed) : Prop := M.1 (1, 18) a = nI n ∧ (∀ q, q < n → bt (M.1 (1, 17) a) q = g q) ∧ ∀ l, l < 2 → ∀ s, s < n → ∀ q, q < 32 → bt (M.1 (1, 16) (8 * a + 4 * l + s)) q = e l s q
/-- the letter at a position -/
def Lt (m : Nat) (u : Int32) (k : Nat) (v : Int32) (p : Nat) : Nat := if m ≤ p then lt1 v (k - 1 - (p - m)) else lt1 u (m - 1 - p)
theorem Lt_lt (m : Nat) (u : Int32) (k : Nat) (v : Int32) (p : Nat) : Lt m u k v p < 2 := by
  unfold Lt; split <;> exact lt1_lt _ _
theorem letter_eq {m k p : Nat} (u v : Int32) (hm : m < 16) (hk : 0 < k) (hk2 : k < 16) (hp : p < m + k) : m_M_letter (nI m) u (nI k) v (nI p) = some (nI (Lt m u k v p)) := by
  unfold m_M_letter Lt
  have e1 : (1 : Int32) = nI 1 := rfl
  by_cases h : m ≤ p
  · rw [if_pos (nI_le h (by omega)), if_pos h]
    rw [show nI k - 1 - (nI p - nI m) = nI (k - 1 - (p - m)) by rw [e1, pk_sub (by omega), pk_sub h, pk_sub (by omega)], bitI v (by omega)]
  · rw [if_neg (nI_ge (by omega) (by omega)), if_neg h]
    rw [show nI m - 1 - nI p = nI (m - 1 - p) by rw [e1, pk_sub (by omega), pk_sub (by omega)], bitI u (by omega)]
theorem lw_u {m k : Nat} (u v : Int32) (hk : 0 < k) : ∀ t, t ≤ m → lw (Lt m u k v) m k t (m - t) = wl u t
  | 0, _ => rfl
  | t + 1, h => by
    have e1 : np m k (m - (t + 1)) = m - t := by
      unfold np; rw [if_neg (by omega)]; omega
    have e2 : Lt m u k v (m - (t + 1)) = lt1 u t := by
      unfold Lt; rw [if_neg (by omega), show m - 1 - (m - (t + 1)) = t by omega]
    show Lt m u k v (m - (t + 1)) :: lw (Lt m u k v) m k t (np m k (m - (t + 1))) = lt1 u t :: wl u t
    rw [e1, e2, lw_u u v hk t (by omega)]
theorem lw_v {m k : Nat} (u v : Int32) : ∀ t, t ≤ k → lw (Lt m u k v) m k t (m + k - t) = wl v t
  | 0, _ => rfl
  | t + 1, h => by
    have e2 : Lt m u k v (m + k - (t + 1)) = lt1 v t := by
      unfold Lt; rw [if_pos (by omega), show k - 1 - (m + k - (t + 1) - m) = t by omega]
    show Lt m u k v (m + k - (t + 1)) :: lw (Lt m u k v) m k t (np m k (m + k - (t + 1))) = lt1 v t :: wl v t
    rw [e2]
    cases t with
    | zero => rfl
    | succ t =>
      have e1 : np m k (m + k - (t + 1 + 1)) = m + k - (t + 1) := by
        unfold np; rw [if_neg (by omega)]; omega
      rw [e1, lw_v u v (t + 1) (by omega)]
/-- the reference's lasso, as a graph, is Tk -/
theorem Gl_Tk {ed : Ed} {gd : Nat → Bool} {m k : Nat} (u v : Int32) (hk : 0 < k) : Gl ed gd (Lt m u k v) m k ↔ Tk ed gd (wl u m) (wl v k) := by
  rw [Gl_iff hk]
  have e1 := lw_u u v hk m (Nat.le_refl m)
  have e2 := lw_v (m := m) u v k (Nat.le_refl k)
  rw [Nat.sub_self] at e1
  rw [show m + k - k = m by omega] at e2
  rw [e1, e2]
