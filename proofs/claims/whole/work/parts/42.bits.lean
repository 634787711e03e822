/-! Pure rows: sets of candidates as the bits of a long -/
def tb (x : Int64) (b : Nat) : Bool := x.toBitVec.getLsbD b
theorem tb_or (x y : Int64) (b : Nat) : tb (x ||| y) b = (tb x b || tb y b) := by
  unfold tb
  rw [Int64.toBitVec_or, BitVec.getLsbD_or]
theorem tb_and (x y : Int64) (b : Nat) : tb (x &&& y) b = (tb x b && tb y b) := by
  unfold tb
  rw [Int64.toBitVec_and, BitVec.getLsbD_and]
theorem tb_big {x : Int64} {b : Nat} (h : 64 ≤ b) : tb x b = false := BitVec.getLsbD_of_ge _ _ h
theorem tb_m1 {b : Nat} (h : b < 64) : tb (-1) b = true := by
  unfold tb
  rw [show (-1 : Int64).toBitVec = BitVec.allOnes 64 from by decide, BitVec.getLsbD_allOnes]
  simp [h]
theorem tb_0 (b : Nat) : tb 0 b = false := by
  unfold tb
  rw [show (0 : Int64).toBitVec = 0#64 from by decide]
  simp
theorem tb_not (x : Int64) {b : Nat} (h : b < 64) : tb (x ^^^ (-1)) b = !tb x b := by
  have h1 := tb_m1 h
  unfold tb at h1 ⊢
  rw [Int64.toBitVec_xor, BitVec.getLsbD_xor, h1]
  simp
theorem tb_ext {x y : Int64} (h : ∀ b, b < 64 → tb x b = tb y b) : x = y := by
  apply Int64.toBitVec_inj.mp
  apply BitVec.eq_of_getLsbD_eq
  intro b hb
  exact h b hb
/-- y is a part of x -/
def su (y x : Int64) : Prop := ∀ b, tb y b = true → tb x b = true
theorem su_iff (y x : Int64) : y &&& (x ^^^ (-1)) = 0 ↔ su y x := by
  constructor
  · intro h b hy
    by_cases hb : b < 64
    · have h1 : tb (y &&& (x ^^^ (-1))) b = tb 0 b := by rw [h]
      rw [tb_and, tb_not x hb, tb_0, hy] at h1
      cases hx : tb x b with
      | true => rfl
      | false => rw [hx] at h1; exact absurd h1 (by decide)
    · rw [tb_big (by omega)] at hy
      exact absurd hy (by decide)
  · intro h
    apply tb_ext
    intro b hb
    rw [tb_and, tb_not x hb, tb_0]
    cases hy : tb y b with
    | false => rfl
    | true => rw [h b hy]; rfl
theorem su_rf (x : Int64) : su x x := fun _ h => h
theorem su_tr {x y z : Int64} (h1 : su x y) (h2 : su y z) : su x z := fun b h => h2 b (h1 b h)
theorem su_and_l (x y : Int64) : su (x &&& y) x := fun b h => by rw [tb_and] at h; exact (Bool.and_eq_true_iff.mp h).1
theorem su_and_r (x y : Int64) : su (x &&& y) y := fun b h => by rw [tb_and] at h; exact (Bool.and_eq_true_iff.mp h).2
theorem su_and {x y z : Int64} (h1 : su x y) (h2 : su x z) : su x (y &&& z) := fun b h => by rw [tb_and, h1 b h, h2 b h]; rfl
theorem su_asym {x y : Int64} (h1 : su x y) (h2 : su y x) : x = y := by
  apply tb_ext
  intro b _
  cases hx : tb x b with
  | true => exact (h1 b hx).symm
  | false =>
    cases hy : tb y b with
    | false => rfl
    | true => rw [h2 b hy] at hx; exact absurd hx (by decide)
/-- what keptBy's recursion leaves, bit by bit -/
theorem kb_bit (wy : Nat → Int64) (x : Int64) (b : Nat) : ∀ (k a : Nat) (acc : Int64), tb (kb wy x k a acc) b = true ↔ (tb acc b = true ∨ ∃ i, a ≤ i ∧ i < a + k ∧ su (wy i) x ∧ tb (wy i) b = true) := by
  intro k
  induction k with
  | zero =>
    intro a acc
    exact ⟨Or.inl, fun h => h.elim id (fun ⟨i, h1, h2, _⟩ => by omega)⟩
  | succ k ih =>
    intro a acc
    unfold kb
    rw [ih]
    by_cases c : wy a &&& (x ^^^ (-1)) = 0
    · rw [if_pos c, tb_or, Bool.or_eq_true]
      have hs := (su_iff _ _).mp c
      constructor
      · rintro ((h | h) | ⟨i, h1, h2, h3⟩)
        · exact Or.inl h
        · exact Or.inr ⟨a, by omega, by omega, hs, h⟩
        · exact Or.inr ⟨i, by omega, by omega, h3⟩
      · rintro (h | ⟨i, h1, h2, h3, h4⟩)
        · exact Or.inl (Or.inl h)
        · by_cases hi : i = a
          · subst hi; exact Or.inl (Or.inr h4)
          · exact Or.inr ⟨i, by omega, by omega, h3, h4⟩
    · rw [if_neg c]
      constructor
      · rintro (h | ⟨i, h1, h2, h3⟩)
        · exact Or.inl h
        · exact Or.inr ⟨i, by omega, by omega, h3⟩
      · rintro (h | ⟨i, h1, h2, h3, h4⟩)
        · exact Or.inl h
        · by_cases hi : i = a
          · subst hi; exact absurd ((su_iff _ _).mpr h3) c
          · exact Or.inr ⟨i, by omega, by omega, h3, h4⟩
/-- unit u keeps a candidate: it isn't its own, or some way of it goes by x and has it -/
theorem uk_bit {sc wy : Nat → Int64} {st : Nat → Nat} {u : Nat} (hm : st u ≤ st (u + 1)) (x : Int64) {b : Nat} (hb : b < 64) : tb (uk sc wy st u x) b = true ↔ (tb (sc u) b = false ∨ ∃ i, st u ≤ i ∧ i < st (u + 1) ∧ su (wy i) x ∧ tb (wy i) b = true) := by
  unfold uk
  rw [kb_bit, tb_not _ hb, show st u + (st (u + 1) - st u) = st (u + 1) by omega]
  simp only [Bool.not_eq_true']
/-- rule 1 is monotone -/
theorem uk_mono {sc wy : Nat → Int64} {st : Nat → Nat} {u : Nat} (hm : st u ≤ st (u + 1)) {x y : Int64} (h : su x y) : su (uk sc wy st u x) (uk sc wy st u y) := by
  intro b hx
  by_cases hb : b < 64
  · rw [uk_bit hm x hb] at hx
    rw [uk_bit hm y hb]
    rcases hx with h1 | ⟨i, h1, h2, h3, h4⟩
    · exact Or.inl h1
    · exact Or.inr ⟨i, h1, h2, su_tr h3 h, h4⟩
  · rw [tb_big (by omega)] at hx
    exact absurd hx (by decide)
