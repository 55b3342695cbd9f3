/-! ===== Int32 by its bits: bt x i ===== -/
def bt (x : Int32) (i : Nat) : Bool := x.toBitVec.getLsbD i
theorem b_ext {x y : Int32} (h : ∀ i, i < 32 → bt x i = bt y i) : x = y := Int32.toBitVec_inj.mp (BitVec.eq_of_getLsbD_eq (fun i hi => h i hi))
theorem b_or (x y : Int32) (i : Nat) : bt (x ||| y) i = (bt x i || bt y i) := by unfold bt; rw [Int32.toBitVec_or, BitVec.getLsbD_or]
theorem b_and (x y : Int32) (i : Nat) : bt (x &&& y) i = (bt x i && bt y i) := by unfold bt; rw [Int32.toBitVec_and, BitVec.getLsbD_and]
theorem b_xor (x y : Int32) (i : Nat) : bt (x ^^^ y) i = (bt x i ^^ bt y i) := by unfold bt; rw [Int32.toBitVec_xor, BitVec.getLsbD_xor]
theorem b_big {x : Int32} {i : Nat} (h : 32 ≤ i) : bt x i = false := BitVec.getLsbD_of_ge _ _ h
theorem b_255 (i : Nat) : bt 255 i = decide (i < 8) := by
  rcases Nat.lt_or_ge i 32 with h | h
  · exact (by decide +kernel : ∀ i, i < 32 → bt 255 i = decide (i < 8)) i h
  · rw [b_big h, decide_eq_false (by omega)]
theorem b_65535 (i : Nat) : bt 65535 i = decide (i < 16) := by
  rcases Nat.lt_or_ge i 32 with h | h
  · exact (by decide +kernel : ∀ i, i < 32 → bt 65535 i = decide (i < 16)) i h
  · rw [b_big h, decide_eq_false (by omega)]
theorem b_m1 : ∀ i, i < 32 → bt (-1) i = true := by decide +kernel
theorem b_0 (i : Nat) : bt 0 i = false := BitVec.getLsbD_zero
theorem s_l : ∀ n, n < 32 → ((nI n &&& 31).toBitVec.smod 32).toNat = n := by decide +kernel
theorem s_u : ∀ n, n < 32 → (((nI n).toUInt32 &&& Int32.toUInt32 31).toBitVec % 32).toNat = n := by decide +kernel
theorem b_shl (n : Nat) (hn : n < 32) (x : Int32) {i : Nat} (hi : i < 32) : bt (x <<< (nI n &&& 31)) i = (decide (n ≤ i) && bt x (i - n)) := by
  unfold bt
  rw [Int32.toBitVec_shiftLeft]
  show (x.toBitVec <<< ((nI n &&& 31).toBitVec.smod 32).toNat).getLsbD i = _
  rw [s_l n hn, BitVec.getLsbD_shiftLeft]
  rcases Nat.lt_or_ge i n with h | h
  · simp [h, Nat.not_le.mpr h]
  · simp [hi, h, Nat.not_lt.mpr h]
theorem b_ushr (n : Nat) (hn : n < 32) (x : Int32) (i : Nat) : bt ((x.toUInt32 >>> ((nI n).toUInt32 &&& Int32.toUInt32 31)).toInt32) i = bt x (n + i) := by
  show (x.toUInt32 >>> ((nI n).toUInt32 &&& Int32.toUInt32 31)).toBitVec.getLsbD i = x.toUInt32.toBitVec.getLsbD (n + i)
  rw [UInt32.toBitVec_shiftRight]
  show (x.toUInt32.toBitVec >>> (((nI n).toUInt32 &&& Int32.toUInt32 31).toBitVec % 32).toNat).getLsbD i = _
  rw [s_u n hn, BitVec.getLsbD_ushiftRight]
theorem b_sshr (n : Nat) (hn : n < 32) (x : Int32) {i : Nat} (hi : i < 32) : bt (x >>> (nI n &&& 31)) i = if n + i < 32 then bt x (n + i) else bt x 31 := by
  unfold bt
  rw [Int32.toBitVec_shiftRight]
  show (x.toBitVec.sshiftRight ((nI n &&& 31).toBitVec.smod 32).toNat).getLsbD i = _
  rw [s_l n hn, BitVec.getLsbD_sshiftRight, BitVec.msb_eq_getLsbD_last]
  simp [hi]
theorem b_shl8 (x : Int32) {i : Nat} (hi : i < 32) : bt (x <<< ((8 : Int32) &&& 31)) i = (decide (8 ≤ i) && bt x (i - 8)) := b_shl 8 (by omega) x hi
theorem b_shl16 (x : Int32) {i : Nat} (hi : i < 32) : bt (x <<< ((16 : Int32) &&& 31)) i = (decide (16 ≤ i) && bt x (i - 16)) := b_shl 16 (by omega) x hi
theorem b_shl24 (x : Int32) {i : Nat} (hi : i < 32) : bt (x <<< ((24 : Int32) &&& 31)) i = (decide (24 ≤ i) && bt x (i - 24)) := b_shl 24 (by omega) x hi
theorem b_sshr8 (x : Int32) {i : Nat} (hi : i < 32) : bt (x >>> ((8 : Int32) &&& 31)) i = if 8 + i < 32 then bt x (8 + i) else bt x 31 := b_sshr 8 (by omega) x hi
/-! bits of small constants; tests of a bit -/
theorem b_1 (i : Nat) : bt 1 i = decide (i = 0) := by
  rcases Nat.lt_or_ge i 32 with h | h
  · exact (by decide +kernel : ∀ i, i < 32 → bt 1 i = decide (i = 0)) i h
  · rw [b_big h, decide_eq_false (by omega)]
theorem b_15 (i : Nat) : bt 15 i = decide (i < 4) := by
  rcases Nat.lt_or_ge i 32 with h | h
  · exact (by decide +kernel : ∀ i, i < 32 → bt 15 i = decide (i < 4)) i h
  · rw [b_big h, decide_eq_false (by omega)]
theorem b_eq0 {x : Int32} : x = 0 ↔ ∀ i, i < 32 → bt x i = false := by
  constructor
  · rintro rfl i -
    exact b_0 i
  · intro h
    exact b_ext fun i hi => by rw [h i hi, b_0]
theorem b_and1 (x : Int32) : x &&& 1 = 0 ↔ bt x 0 = false := by
  rw [b_eq0]
  constructor
  · intro h
    have := h 0 (by omega)
    rw [b_and, b_1] at this
    simpa using this
  · intro h i hi
    rw [b_and, b_1]
    by_cases h0 : i = 0
    · subst h0; simp [h]
    · simp [h0]
/-- the test x >> k & 1 -/
theorem b_tst (x : Int32) {k : Nat} (hk : k < 32) : ((x >>> (nI k &&& 31)) &&& 1) = 0 ↔ bt x k = false := by
  rw [b_and1, b_sshr k hk x (by omega)]
  simp [hk]
theorem b_bit {k : Nat} (hk : k < 32) (i : Nat) : bt ((1 : Int32) <<< (nI k &&& 31)) i = decide (i = k) := by
  rcases Nat.lt_or_ge i 32 with h | h
  · rw [b_shl k hk 1 h, b_1]
    by_cases e : i = k
    · subst e; simp
    · simp only [e, decide_false, Bool.and_eq_false_iff, decide_eq_false_iff_not]
      by_cases e2 : k ≤ i
      · right; omega
      · left; exact e2
  · rw [b_big h, decide_eq_false (by omega)]
theorem i8 (k : Nat) : (8 : Int32) * nI k = nI (8 * k) := pk_mul 8 k
theorem i84 (k : Nat) : (8 : Int32) * nI k + 4 = nI (8 * k + 4) := by rw [i8]; exact nI_add (8 * k) 4
/-! loops -/
theorem lpN_run {σ ρ : Type} {b : σ → Option (σ ⊕ ρ)} (I : σ → Prop) (μ : σ → Nat) (R : ρ → Prop) (hs : ∀ s, I s → (∃ s', b s = some (.inl s') ∧ I s' ∧ μ s' < μ s) ∨ ∃ r, b s = some (.inr r) ∧ R r) : ∀ (n : Nat) (s : σ), I s → μ s < n → ∃ r, lpN b n s = some r ∧ R r := by
  intro n
  induction n with
  | zero => intro s _ h; omega
  | succ n ih =>
    intro s hI hm
    rcases hs s hI with ⟨s', h1, h2, h3⟩ | ⟨r, h1, h2⟩
    · obtain ⟨r, h4, h5⟩ := ih s' h2 (by omega)
      exact ⟨r, (bd_of h1).trans h4, h5⟩
    · exact ⟨r, bd_of h1, h2⟩
theorem lp_run {σ ρ : Type} {b : σ → Option (σ ⊕ ρ)} (I : σ → Prop) (μ : σ → Nat) (R : ρ → Prop) (hs : ∀ s, I s → (∃ s', b s = some (.inl s') ∧ I s' ∧ μ s' < μ s) ∨ ∃ r, b s = some (.inr r) ∧ R r) {s : σ} (h : I s) (hm : μ s < 1000000) : ∃ r, lp b s = some r ∧ R r := lpN_run I μ R hs 1000000 s h hm
/-- a loop that counts from k to B; P k s: the state at count k -/
theorem lp_for {σ ρ : Type} {b : σ → Option (σ ⊕ ρ)} (B : Nat) (P : Nat → σ → Prop) (R : ρ → Prop) (hs : ∀ k s, k < B → P k s → (∃ s', b s = some (.inl s') ∧ P (k + 1) s') ∨ ∃ r, b s = some (.inr r) ∧ R r) (he : ∀ s, P B s → ∃ r, b s = some (.inr r) ∧ R r) {k : Nat} {s : σ} (h : P k s) (hk : k ≤ B) (hB : B < 999999) : ∃ r, lp b s = some r ∧ R r := by
  have key : ∀ (n k : Nat) (s : σ), P k s → k ≤ B → B - k < n → ∃ r, lpN b n s = some r ∧ R r := by
    intro n
    induction n with
    | zero => intro k s _ _ h; omega
    | succ n ih =>
      intro k s hP hk hn
      rcases Nat.lt_or_ge k B with hlt | hge
      · rcases hs k s hlt hP with ⟨s', h1, h2⟩ | ⟨r, h1, h2⟩
        · obtain ⟨r, h4, h5⟩ := ih (k + 1) s' h2 (by omega) (by omega)
          exact ⟨r, (bd_of h1).trans h4, h5⟩
        · exact ⟨r, bd_of h1, h2⟩
      · have e : k = B := by omega
        subst e
        obtain ⟨r, h1, h2⟩ := he s hP
        exact ⟨r, bd_of h1, h2⟩
  exact key 1000000 k s h hk (by omega)
theorem nI_inc (k : Nat) : nI k + 1 = nI (k + 1) := nI_1 k
/-- branches by the counter -/
theorem if_ge {α : Type} {k B : Nat} (hk : B ≤ k) (hk2 : k < 2 ^ 31) {x : Int32} (hx : x = nI B) {a b : α} : (if x ≤ nI k then a else b) = a := by
  subst hx
  exact if_pos (nI_le hk hk2)
theorem if_lt {α : Type} {k B : Nat} (hk : k < B) (hB : B < 2 ^ 31) {x : Int32} (hx : x = nI B) {a b : α} : (if x ≤ nI k then a else b) = b := by
  subst hx
  exact if_neg (nI_ge hk hB)
