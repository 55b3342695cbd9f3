/-! a search that ends bounds what it met -/
abbrev T3 : Type := Nat × Nat × Nat
def vld (t : T3) : Prop := ∃ a b d, a < 27 ∧ b < 27 ∧ d < 27 ∧ t = (8 * a, 8 * b, 8 * d)
def ky (t : T3) : Nat := kyN t.1 t.2.1 t.2.2
def mv (T : Nat) (t : T3) : T3 := (nxt T t.1, nxt T t.2.1, nxt T t.2.2)
theorem ky_vl (a b d : Nat) : kyN (8 * a) (8 * b) (8 * d) = a + 27 * b + 729 * d := by
  show (8 * a + (27 * (8 * b) + 729 * (8 * d))) >>> 3 = _
  rw [Nat.shiftRight_eq_div_pow]
  omega
theorem ky_inj {x y : T3} (hx : vld x) (hy : vld y) (h : ky x = ky y) : x = y := by
  obtain ⟨a, b, d, h1, h2, h3, rfl⟩ := hx
  obtain ⟨a', b', d', h4, h5, h6, rfl⟩ := hy
  have h : kyN (8 * a) (8 * b) (8 * d) = kyN (8 * a') (8 * b') (8 * d') := h
  rw [ky_vl, ky_vl] at h
  have e1 : a = a' := by omega
  have e2 : b = b' := by omega
  have e3 : d = d' := by omega
  rw [e1, e2, e3]
theorem tb_beq (v k : Nat) : Nat.beq (Nat.land 1 (Nat.shiftRight v k)) 0 = !v.testBit k := by
  show Nat.beq (1 &&& (v >>> k)) 0 = !((1 &&& (v >>> k)) != 0)
  generalize (1 &&& (v >>> k)) = x
  cases x with
  | zero => rfl
  | succ x => rfl
theorem tb_lor (v k j : Nat) : (Nat.lor v (Nat.shiftLeft 1 k)).testBit j = (v.testBit j || decide (k = j)) := by
  show (v ||| (1 <<< k)).testBit j = _
  rw [Nat.testBit_or, Nat.one_shiftLeft, Nat.testBit_two_pow]
theorem put_ok {T : Nat} {t : T3} {s : Sk} {v : Nat} {k : Sk → Nat → Bool} (hv : vld (mv T t)) (h : put T t.1 t.2.1 t.2.2 s v k = true) : ∃ s1 v1, k s1 v1 = true ∧ v1.testBit (ky (mv T t)) = true ∧ (∀ j, v.testBit j = true → v1.testBit j = true) ∧ (∀ x, vld x → v1.testBit (ky x) = true → v.testBit (ky x) = true ∨ x ∈ s1) ∧ (∀ x, x ∈ s → x ∈ s1) ∧ (∀ x, x ∈ s1 → x ∈ s ∨ x = mv T t) := by
  have h : cond (Nat.beq (Nat.land 1 (Nat.shiftRight v (ky (mv T t)))) 0) (k (mv T t :: s) (Nat.lor v (Nat.shiftLeft 1 (ky (mv T t))))) (k s v) = true := h
  rw [tb_beq] at h
  cases hb : v.testBit (ky (mv T t))
  · rw [hb] at h
    refine ⟨_, _, h, ?_, fun j hj => ?_, fun x hx h1 => ?_, fun x hx => List.mem_cons_of_mem _ hx, fun x hx => ?_⟩
    · rw [tb_lor]; simp
    · rw [tb_lor, hj]; rfl
    · rw [tb_lor, Bool.or_eq_true, decide_eq_true_eq] at h1
      rcases h1 with h1 | h1
      · exact Or.inl h1
      · rw [ky_inj hv hx h1]
        exact Or.inr (List.mem_cons_self ..)
    · rcases List.mem_cons.mp hx with h1 | h1
      · exact Or.inr h1
      · exact Or.inl h1
  · rw [hb] at h
    exact ⟨s, v, h, hb, fun j hj => hj, fun x _ h1 => Or.inl h1, fun x hx => hx, fun x hx => Or.inl hx⟩
theorem bfs_ok {TA TB : Nat} (hA : ∀ t, vld t → vld (mv TA t)) (hB : ∀ t, vld t → vld (mv TB t)) : ∀ (f : Nat) (s : Sk) (v : Nat) (D : Sk), bfs TA TB f s v = true → (∀ x, x ∈ s → vld x) → (∀ x, x ∈ D → vld x) → (∀ x, vld x → v.testBit (ky x) = true → x ∈ D ∨ x ∈ s) → (∀ x, x ∈ D → v.testBit (ky (mv TA x)) = true ∧ v.testBit (ky (mv TB x)) = true) → ∃ L : Sk, L.length ≤ D.length + f ∧ (∀ x, x ∈ D → x ∈ L) ∧ (∀ x, x ∈ s → x ∈ L) ∧ ∀ x, x ∈ L → vld x ∧ mv TA x ∈ L ∧ mv TB x ∈ L := by
  have fin : ∀ (f : Nat) (v : Nat) (D : Sk), (∀ x, x ∈ D → vld x) → (∀ x, vld x → v.testBit (ky x) = true → x ∈ D ∨ x ∈ ([] : Sk)) → (∀ x, x ∈ D → v.testBit (ky (mv TA x)) = true ∧ v.testBit (ky (mv TB x)) = true) → ∃ L : Sk, L.length ≤ D.length + f ∧ (∀ x, x ∈ D → x ∈ L) ∧ (∀ x, x ∈ ([] : Sk) → x ∈ L) ∧ ∀ x, x ∈ L → vld x ∧ mv TA x ∈ L ∧ mv TB x ∈ L := by
    intro f v D h1 h2 h3
    refine ⟨D, by omega, fun x h => h, fun x h => (by cases h), fun x hx => ⟨h1 x hx, ?_, ?_⟩⟩
    · rcases h2 _ (hA x (h1 x hx)) (h3 x hx).1 with h | h
      · exact h
      · cases h
    · rcases h2 _ (hB x (h1 x hx)) (h3 x hx).2 with h | h
      · exact h
      · cases h
  intro f
  induction f with
  | zero =>
    intro s v D h h1 h2 h3 h4
    cases s with
    | nil => exact fin 0 v D h2 h3 h4
    | cons p t => cases h
  | succ f ih =>
    intro s v D h h1 h2 h3 h4
    cases s with
    | nil => exact fin (f + 1) v D h2 h3 h4
    | cons p t =>
      have h : put TA p.1 p.2.1 p.2.2 t v (fun s1 v1 => put TB p.1 p.2.1 p.2.2 s1 v1 (bfs TA TB f)) = true := h
      have hp : vld p := h1 p (List.mem_cons_self ..)
      obtain ⟨s1, v1, h, a1, a2, a3, a4, a5⟩ := put_ok (hA p hp) h
      have h : put TB p.1 p.2.1 p.2.2 s1 v1 (bfs TA TB f) = true := h
      obtain ⟨s2, v2, h, b1, b2, b3, b4, b5⟩ := put_ok (hB p hp) h
      obtain ⟨L, c1, c2, c3, c4⟩ := ih s2 v2 (p :: D) h (fun x hx => by
        rcases b5 x hx with e | e
        · rcases a5 x e with e | e
          · exact h1 x (List.mem_cons_of_mem _ e)
          · rw [e]; exact hA p hp
        · rw [e]; exact hB p hp) (fun x hx => by
        rcases List.mem_cons.mp hx with e | e
        · rw [e]; exact hp
        · exact h2 x e) (fun x hx hb => by
        rcases b3 x hx hb with e | e
        · rcases a3 x hx e with e | e
          · rcases h3 x hx e with e | e
            · exact Or.inl (List.mem_cons_of_mem _ e)
            · rcases List.mem_cons.mp e with e | e
              · rw [e]; exact Or.inl (List.mem_cons_self ..)
              · exact Or.inr (b4 x (a4 x e))
          · exact Or.inr (b4 x e)
        · exact Or.inr e) (fun x hx => by
        rcases List.mem_cons.mp hx with e | e
        · rw [e]; exact ⟨b2 _ a1, b1⟩
        · exact ⟨b2 _ (a2 _ (h4 x e).1), b2 _ (a2 _ (h4 x e).2)⟩)
      refine ⟨L, by simp only [List.length_cons] at c1; omega, fun x hx => c2 x (List.mem_cons_of_mem _ hx), fun x hx => ?_, c4⟩
      rcases List.mem_cons.mp hx with e | e
      · rw [e]; exact c2 p (List.mem_cons_self ..)
      · exact c3 x (b4 x (a4 x e))
/-! the row map of a letter; closed lists of triples -/
def tm (g A d m q : Nat) : Nat := cond (Nat.testBit A (3 * m + q)) (cond (Nat.beq d 0) 0 (cond (Nat.testBit g q) 2 d)) 0
def mx (x y : Nat) : Nat := cond (Nat.ble x y) y x
def dq (g A i q : Nat) : Nat := mx (tm g A (i % 3) 0 q) (mx (tm g A (i / 3 % 3) 1 q) (tm g A (i / 9) 2 q))
def Fn (g A i : Nat) : Nat := dq g A i 0 + 3 * dq g A i 1 + 9 * dq g A i 2
def ckT (big g : Nat) : Bool := (List.range 512).all fun A => (List.range 27).all fun i => Nat.beq (nxt (tabOf big A) (8 * i)) (8 * Fn g A i) && Nat.blt (Fn g A i) 27
theorem ckT1 : ckT big1 1 = true := by decide +kernel
theorem ckT3 : ckT big3 3 = true := by decide +kernel
def Cl (g A B : Nat) (L : List T3) : Prop := (1, 3, 9) ∈ L ∧ ∀ x, x ∈ L → (Fn g A x.1, Fn g A x.2.1, Fn g A x.2.2) ∈ L ∧ (Fn g B x.1, Fn g B x.2.1, Fn g B x.2.2) ∈ L
theorem Cl.swap {g A B : Nat} {L : List T3} (h : Cl g A B L) : Cl g B A L := ⟨h.1, fun x hx => ⟨(h.2 x hx).2, (h.2 x hx).1⟩⟩
theorem ckT_use {big g : Nat} (h : ckT big g = true) {A i : Nat} (hA : A < 512) (hi : i < 27) : nxt (tabOf big A) (8 * i) = 8 * Fn g A i ∧ Fn g A i < 27 := by
  have h1 := List.all_eq_true.mp (List.all_eq_true.mp h A (List.mem_range.mpr hA)) i (List.mem_range.mpr hi)
  rw [Bool.and_eq_true] at h1
  exact ⟨Nat.eq_of_beq_eq_true h1.1, Nat.le_of_ble_eq_true h1.2⟩
theorem bfs_Cl {big g A B : Nat} (h : ckT big g = true) (hA : A < 512) (hB : B < 512) (hb : bfs (tabOf big A) (tabOf big B) 1023 (List.cons (8, 24, 72) List.nil) (Nat.shiftLeft 1 (kyN 8 24 72)) = true) : ∃ L, L.length ≤ 1023 ∧ Cl g A B L := by
  have mvt : ∀ A, A < 512 → ∀ a b d, a < 27 → b < 27 → d < 27 → mv (tabOf big A) (8 * a, 8 * b, 8 * d) = (8 * Fn g A a, 8 * Fn g A b, 8 * Fn g A d) := fun A hA a b d h1 h2 h3 => by
    show (nxt (tabOf big A) (8 * a), nxt (tabOf big A) (8 * b), nxt (tabOf big A) (8 * d)) = _
    rw [(ckT_use h hA h1).1, (ckT_use h hA h2).1, (ckT_use h hA h3).1]
  have val : ∀ A, A < 512 → ∀ t, vld t → vld (mv (tabOf big A) t) := fun A hA t ht => by
    obtain ⟨a, b, d, h1, h2, h3, rfl⟩ := ht
    rw [mvt A hA a b d h1 h2 h3]
    exact ⟨_, _, _, (ckT_use h hA h1).2, (ckT_use h hA h2).2, (ckT_use h hA h3).2, rfl⟩
  have st : vld (8, 24, 72) := ⟨1, 3, 9, by omega, by omega, by omega, rfl⟩
  obtain ⟨L, c1, -, c3, c4⟩ := bfs_ok (val A hA) (val B hB) 1023 _ _ [] hb (fun x hx => by
    rw [List.mem_singleton.mp hx]; exact st) (fun x hx => by cases hx) (fun x hx h1 => by
    refine Or.inr (List.mem_singleton.mpr ?_)
    have e : (1 <<< kyN 8 24 72).testBit (ky x) = true := h1
    rw [Nat.one_shiftLeft, Nat.testBit_two_pow, decide_eq_true_eq] at e
    exact ky_inj hx st e.symm) (fun x hx => by cases hx)
  refine ⟨L.map fun x => (x.1 / 8, x.2.1 / 8, x.2.2 / 8), by simpa using c1, List.mem_map.mpr ⟨_, c3 _ (List.mem_singleton.mpr rfl), rfl⟩, fun y hy => ?_⟩
  obtain ⟨x, hx, rfl⟩ := List.mem_map.mp hy
  obtain ⟨⟨a, b, d, h1, h2, h3, rfl⟩, m1, m2⟩ := c4 x hx
  rw [mvt A hA a b d h1 h2 h3] at m1
  rw [mvt B hB a b d h1 h2 h3] at m2
  have dv : ∀ x, 8 * x / 8 = x := fun x => by omega
  simp only [dv]
  refine ⟨List.mem_map.mpr ⟨_, m1, ?_⟩, List.mem_map.mpr ⟨_, m2, ?_⟩⟩ <;> simp only [dv]
/-! words that end with a letter have rows among its row map's values -/
def dd (l : List Nat) : List Nat := List.foldr (fun x acc => cond (acc.contains x) acc (x :: acc)) [] l
theorem mem_dd {x : Nat} : ∀ {l : List Nat}, x ∈ l → x ∈ dd l := by
  intro l
  induction l with
  | nil => intro h; cases h
  | cons y l ih =>
    intro h
    show x ∈ cond ((dd l).contains y) (dd l) (y :: dd l)
    cases hc : (dd l).contains y
    · rcases List.mem_cons.mp h with e | e
      · rw [e]; exact List.mem_cons_self ..
      · exact List.mem_cons_of_mem _ (ih e)
    · rcases List.mem_cons.mp h with e | e
      · rw [e]; exact List.contains_iff_mem.mp hc
      · exact ih e
theorem dd_mem {x : Nat} : ∀ {l : List Nat}, x ∈ dd l → x ∈ l := by
  intro l
  induction l with
  | nil => intro h; cases h
  | cons y l ih =>
    intro h
    have h : x ∈ cond ((dd l).contains y) (dd l) (y :: dd l) := h
    cases hc : (dd l).contains y
    · rw [hc] at h
      rcases List.mem_cons.mp h with e | e
      · rw [e]; exact List.mem_cons_self ..
      · exact List.mem_cons_of_mem _ (ih e)
    · rw [hc] at h
      exact List.mem_cons_of_mem _ (ih h)
def cube (l : List Nat) : List T3 := l.flatMap fun a => l.flatMap fun b => l.map fun d => (a, b, d)
theorem mem_cube {l : List Nat} {x : T3} : x ∈ cube l ↔ x.1 ∈ l ∧ x.2.1 ∈ l ∧ x.2.2 ∈ l := by
  unfold cube
  simp only [List.mem_flatMap, List.mem_map]
  constructor
  · rintro ⟨a, ha, b, hb, d, hd, rfl⟩
    exact ⟨ha, hb, hd⟩
  · rintro ⟨ha, hb, hd⟩
    exact ⟨x.1, ha, x.2.1, hb, x.2.2, hd, rfl⟩
theorem len_flat {α β : Type} (f : α → List β) (n : Nat) : ∀ (l : List α), (∀ a, a ∈ l → (f a).length = n) → (l.flatMap f).length = l.length * n := by
  intro l
  induction l with
  | nil => intro _; simp
  | cons a l ih =>
    intro h
    rw [List.flatMap_cons, List.length_append, h a (List.mem_cons_self ..), ih fun b hb => h b (List.mem_cons_of_mem _ hb), List.length_cons, Nat.succ_mul, Nat.add_comm]
theorem len_cube (l : List Nat) : (cube l).length = l.length * (l.length * l.length) :=
  len_flat _ _ l fun a _ => len_flat _ _ l fun b _ => by rw [List.length_map]
/-- the rows that there are: g's states have no digit 1 -/
def rows (g : Nat) : List Nat := (List.range 27).filter fun i => Nat.beq i 1 || Nat.beq i 3 || Nat.beq i 9 || !((Nat.testBit g 0 && Nat.beq (i % 3) 1) || (Nat.testBit g 1 && Nat.beq (i / 3 % 3) 1) || (Nat.testBit g 2 && Nat.beq (i / 9) 1))
def imL (g A : Nat) : List Nat := dd ((rows g).map (Fn g A))
def ckI (cub g : Nat) : Bool := (rows g).contains 1 && (rows g).contains 3 && (rows g).contains 9 && (List.range 512).all fun A => Nat.ble ((imL g A).length * ((imL g A).length * (imL g A).length)) (cubOf cub A) && (imL g A).all fun i => (rows g).contains i
theorem ckI1 : ckI cub1 1 = true := by decide +kernel
theorem ckI3 : ckI cub3 3 = true := by decide +kernel
theorem im_Cl {cub g A B : Nat} (h : ckI cub g = true) (hA : A < 512) (hB : B < 512) (hc : cubOf cub A + cubOf cub B ≤ 1022) : ∃ L, L.length ≤ 1023 ∧ Cl g A B L := by
  unfold ckI at h
  rw [Bool.and_eq_true, Bool.and_eq_true, Bool.and_eq_true] at h
  obtain ⟨⟨⟨h1, h3⟩, h9⟩, h⟩ := h
  have h1 := List.contains_iff_mem.mp h1
  have h3 := List.contains_iff_mem.mp h3
  have h9 := List.contains_iff_mem.mp h9
  have hl : ∀ A, A < 512 → (imL g A).length * ((imL g A).length * (imL g A).length) ≤ cubOf cub A ∧ ∀ i, i ∈ imL g A → i ∈ rows g := fun A hA => by
    have h := List.all_eq_true.mp h A (List.mem_range.mpr hA)
    rw [Bool.and_eq_true] at h
    exact ⟨Nat.le_of_ble_eq_true h.1, fun i hi => List.contains_iff_mem.mp (List.all_eq_true.mp h.2 i hi)⟩
  have go : ∀ A i, i ∈ rows g → Fn g A i ∈ imL g A := fun A i hi => mem_dd (List.mem_map.mpr ⟨i, hi, rfl⟩)
  refine ⟨(1, 3, 9) :: (cube (imL g A) ++ cube (imL g B)), ?_, List.mem_cons_self .., fun x hx => ?_⟩
  · rw [List.length_cons, List.length_append, len_cube, len_cube]
    have := (hl A hA).1
    have := (hl B hB).1
    omega
  · have hr : x.1 ∈ rows g ∧ x.2.1 ∈ rows g ∧ x.2.2 ∈ rows g := by
      rcases List.mem_cons.mp hx with e | e
      · rw [e]; exact ⟨h1, h3, h9⟩
      · rcases List.mem_append.mp e with e | e
        · obtain ⟨a, b, d⟩ := mem_cube.mp e
          exact ⟨(hl A hA).2 _ a, (hl A hA).2 _ b, (hl A hA).2 _ d⟩
        · obtain ⟨a, b, d⟩ := mem_cube.mp e
          exact ⟨(hl B hB).2 _ a, (hl B hB).2 _ b, (hl B hB).2 _ d⟩
    refine ⟨List.mem_cons_of_mem _ (List.mem_append_left _ (mem_cube.mpr ⟨go A _ hr.1, go A _ hr.2.1, go A _ hr.2.2⟩)), List.mem_cons_of_mem _ (List.mem_append_right _ (mem_cube.mpr ⟨go B _ hr.1, go B _ hr.2.1, go B _ hr.2.2⟩))⟩
/-- none good, or all: few rows -/
def few (g : Nat) : List Nat := cond (Nat.beq g 0) [0, 1, 3, 4, 9, 10, 12, 13] [0, 2, 6, 8, 18, 20, 24, 26]
def ckF (g : Nat) : Bool := (List.range 512).all fun A => (1 :: 3 :: 9 :: few g).all fun i => (few g).contains (Fn g A i)
theorem ckF0 : ckF 0 = true := by decide +kernel
theorem ckF7 : ckF 7 = true := by decide +kernel
theorem few_Cl {g A B : Nat} (h : ckF g = true) (hA : A < 512) (hB : B < 512) : ∃ L, L.length ≤ 1023 ∧ Cl g A B L := by
  have go : ∀ A, A < 512 → ∀ i, i ∈ 1 :: 3 :: 9 :: few g → Fn g A i ∈ few g := fun A hA i hi => List.contains_iff_mem.mp (List.all_eq_true.mp (List.all_eq_true.mp h A (List.mem_range.mpr hA)) i hi)
  have hlen : (few g).length = 8 := by
    unfold few
    cases Nat.beq g 0 <;> rfl
  refine ⟨(1, 3, 9) :: cube (few g), by rw [List.length_cons, len_cube, hlen]; decide, List.mem_cons_self .., fun x hx => ?_⟩
  have hr : x.1 ∈ 1 :: 3 :: 9 :: few g ∧ x.2.1 ∈ 1 :: 3 :: 9 :: few g ∧ x.2.2 ∈ 1 :: 3 :: 9 :: few g := by
    have up : ∀ i, i ∈ few g → i ∈ 1 :: 3 :: 9 :: few g := fun i hi => List.mem_cons_of_mem _ (List.mem_cons_of_mem _ (List.mem_cons_of_mem _ hi))
    rcases List.mem_cons.mp hx with e | e
    · rw [e]; exact ⟨by simp, by simp, by simp⟩
    · obtain ⟨a, b, d⟩ := mem_cube.mp e
      exact ⟨up _ a, up _ b, up _ d⟩
  exact ⟨List.mem_cons_of_mem _ (mem_cube.mpr ⟨go A hA _ hr.1, go A hA _ hr.2.1, go A hA _ hr.2.2⟩), List.mem_cons_of_mem _ (mem_cube.mpr ⟨go B hB _ hr.1, go B hB _ hr.2.1, go B hB _ hr.2.2⟩)⟩
theorem pr_Cl {big cub g A B : Nat} (hT : ckT big g = true) (hI : ckI cub g = true) (hA : A < 512) (hB : B < 512) (h : prOK big cub A B = true) : ∃ L, L.length ≤ 1023 ∧ Cl g A B L := by
  unfold prOK at h
  cases hc : Nat.ble (Nat.add (cubOf cub A) (cubOf cub B)) 1022
  · rw [hc] at h
    exact bfs_Cl hT hA hB h
  · exact im_Cl hI hA hB (Nat.le_of_ble_eq_true hc)
theorem prs_use {big cub A : Nat} : ∀ {n : Nat}, prs big cub A n = true → ∀ B, B < n → prOK big cub A B = true := by
  intro n
  induction n with
  | zero => intro _ B hB; omega
  | succ n ih =>
    intro h B hB
    have h : cond (prOK big cub A n) (prs big cub A n) false = true := h
    cases hp : prOK big cub A n
    · rw [hp] at h; cases h
    · rw [hp] at h
      by_cases e : B = n
      · rw [e]; exact hp
      · exact ih h B (by omega)
theorem prsA_use {big cub lo : Nat} : ∀ {n : Nat}, prsA big cub lo n = true → ∀ A, lo ≤ A → A < lo + n → ∀ B, B ≤ A → prOK big cub A B = true := by
  intro n
  induction n with
  | zero => intro _ A h1 h2; omega
  | succ n ih =>
    intro h A h1 h2 B hB
    have h : cond (prs big cub (lo + n) (lo + n + 1)) (prsA big cub lo n) false = true := h
    cases hp : prs big cub (lo + n) (lo + n + 1)
    · rw [hp] at h; cases h
    · rw [hp] at h
      by_cases e : A = lo + n
      · rw [e]; exact prs_use hp B (by omega)
      · exact ih h A h1 (by omega) B hB
