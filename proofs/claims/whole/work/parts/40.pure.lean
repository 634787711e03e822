/-! Pure rows: loops of the mirrors -/
theorem lp_mono {σ ε : Type} {f : σ → Option (σ ⊕ ε)} : ∀ {n m : Nat} {s : σ} {e : ε}, n ≤ m → lp f n s = some e → lp f m s = some e := by
  intro n
  induction n with
  | zero => intro m s e _ h; exact absurd h lp_0
  | succ n ih =>
    intro m s e hm h
    cases m with
    | zero => omega
    | succ m =>
      rw [lp_s] at h
      rw [lp_s]
      cases hf : f s with
      | none => rw [hf] at h; exact absurd h on
      | some r =>
        rw [hf] at h
        cases r with
        | inl s' => exact ih (Nat.le_of_succ_le_succ hm) h
        | inr e' => exact h
/-- a loop by a measure and an invariant -/
theorem lp_meas {σ ε : Type} {f : σ → Option (σ ⊕ ε)} (I : σ → Prop) (μ : σ → Nat) (Q : ε → Prop)
    (hs : ∀ s, I s → (∃ s', f s = some (.inl s') ∧ I s' ∧ μ s' < μ s) ∨ (∃ e, f s = some (.inr e) ∧ Q e)) : ∀ (n : Nat) (s : σ), I s → μ s < n → ∃ e, lp f n s = some e ∧ Q e := by
  intro n
  induction n with
  | zero => intro s _ h; omega
  | succ n ih =>
    intro s hI hm
    rw [lp_s]
    rcases hs s hI with ⟨s', h1, h2, h3⟩ | ⟨e, h1, h2⟩
    · rw [h1]
      exact ih s' h2 (by omega)
    · rw [h1]
      exact ⟨e, rfl, h2⟩
/-- a loop whose states are known: g a, g (a + 1), .. g b, then its end -/
theorem lp_up {σ ε : Type} {f : σ → Option (σ ⊕ ε)} (g : Nat → σ) (e : ε) : ∀ (k a : Nat) (n : Nat), (∀ i, a ≤ i → i < a + k → f (g i) = some (.inl (g (i + 1)))) → f (g (a + k)) = some (.inr e) → k < n → lp f n (g a) = some e := by
  intro k
  induction k with
  | zero =>
    intro a n _ hx hn
    obtain ⟨n, rfl⟩ : ∃ m, n = m + 1 := ⟨n - 1, by omega⟩
    rw [lp_s, show f (g a) = some (.inr e) from hx]
    rfl
  | succ k ih =>
    intro a n hs hx hn
    obtain ⟨n, rfl⟩ : ∃ m, n = m + 1 := ⟨n - 1, by omega⟩
    rw [lp_s, hs a (Nat.le_refl a) (by omega)]
    refine ih (a + 1) n (fun i h1 h2 => hs i (by omega) (by omega)) ?_ (by omega)
    rw [show a + 1 + k = a + (k + 1) by omega]
    exact hx
/-- an index within, and one without -/
theorem ix_in {c N : Nat} (h : c < N) (hN : N < 2 ^ 31) : ¬ (nI c < 0 ∨ N ≤ (nI c).toNatClampNeg) := nI_in h hN
/-- what keptBy leaves: k ways from place a on, acc so far -/
def kb (wy : Nat → Int64) (x : Int64) : Nat → Nat → Int64 → Int64
  | 0, _, acc => acc
  | k + 1, a, acc => kb wy x k (a + 1) (if wy a &&& (x ^^^ (-1)) = 0 then acc ||| wy a else acc)
theorem kb_last (wy : Nat → Int64) (x : Int64) : ∀ (k a : Nat) (acc : Int64), kb wy x (k + 1) a acc = (if wy (a + k) &&& (x ^^^ (-1)) = 0 then kb wy x k a acc ||| wy (a + k) else kb wy x k a acc) := by
  intro k
  induction k with
  | zero => intro a acc; rfl
  | succ k ih =>
    intro a acc
    have h := ih (a + 1) (if wy a &&& (x ^^^ (-1)) = 0 then acc ||| wy a else acc)
    rw [show a + 1 + k = a + (k + 1) by omega] at h
    exact h
theorem pu_keptBy {sc : Nat → Int64} {sr : Nat → Int32} {wy : Nat → Int64} {u a k : Nat} (hu : u < 87) (ha : sr u = nI a) (hb : sr (u + 1) = nI (a + k)) (hk : a + k ≤ 326) (x : Int64) {N : Nat} (hN : 326 < N) :
    mi_UN_keptBy N sc sr wy (nI u) x = some (kb wy x k a (sc u ^^^ (-1))) := by
  have cu : (nI u).toNatClampNeg = u := nI_clamp (by omega)
  have cu1 : (nI u + 1).toNatClampNeg = u + 1 := by rw [nI_1]; exact nI_clamp (by omega)
  unfold mi_UN_keptBy
  rw [if_neg (ix_in hu (by decide)), if_neg (ix_in (show u < 88 by omega) (by decide)), cu, ha]
  have hl : lp (mb_UN_keptBy_27 sr wy (nI u) x) N (sc u ^^^ (-1), nI a) = some (kb wy x k a (sc u ^^^ (-1)), nI (a + k)) := by
    have hz := lp_up (f := mb_UN_keptBy_27 sr wy (nI u) x) (fun i => (kb wy x (i - a) a (sc u ^^^ (-1)), nI i)) (kb wy x k a (sc u ^^^ (-1)), nI (a + k)) k a N ?_ ?_ (by omega)
    · simp only [Nat.sub_self] at hz
      exact hz
    · intro i h1 h2
      unfold mb_UN_keptBy_27
      have h3 : i + 1 - a = (i - a) + 1 := by omega
      have h4 : a + (i - a) = i := by omega
      have ci : (nI i).toNatClampNeg = i := nI_clamp (by omega)
      rw [if_neg (by rw [nI_1]; exact ix_in (show u + 1 < 88 by omega) (by decide)), cu1, hb]
      dsimp only
      rw [if_neg (nI_ge (show i < a + k by omega) (by omega)), if_neg (ix_in (show i < 326 by omega) (by decide)), ci, h3, kb_last, h4, nI_1]
      by_cases hc : wy i &&& (x ^^^ (-1)) = 0
      · rw [if_pos hc, if_pos hc]
      · rw [if_neg hc, if_neg hc]
    · unfold mb_UN_keptBy_27
      rw [if_neg (by rw [nI_1]; exact ix_in (show u + 1 < 88 by omega) (by decide)), cu1, hb]
      dsimp only
      rw [if_pos (nI_le (Nat.le_refl _) (by omega)), show a + k - a = k by omega]
  rw [hl]
  rfl
