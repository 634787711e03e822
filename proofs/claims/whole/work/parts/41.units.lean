/-! Pure rows: the units' methods as plain recursions. n units; unit u has the ways st u .. st (u + 1) - 1 -/
def uo (n : Nat) (st : Nat → Nat) (sr : Nat → Int32) : Prop := n ≤ 87 ∧ (∀ u, u ≤ n → sr u = nI (st u)) ∧ (∀ u, u < n → st u ≤ st (u + 1)) ∧ (∀ u, u ≤ n → st u ≤ 326)
/-- what unit u leaves of x, and all that isn't its own -/
def uk (sc wy : Nat → Int64) (st : Nat → Nat) (u : Nat) (x : Int64) : Int64 := kb wy x (st (u + 1) - st u) (st u) (sc u ^^^ (-1))
theorem pu_kept {n : Nat} {st : Nat → Nat} {sc : Nat → Int64} {sr : Nat → Int32} {wy : Nat → Int64} (h : uo n st sr) {u : Nat} (hu : u < n) (x : Int64) {N : Nat} (hN : 326 < N) : mi_UN_keptBy N sc sr wy (nI u) x = some (uk sc wy st u x) := by
  obtain ⟨h1, h2, h3, h4⟩ := h
  have hm := h3 u hu
  have hb := h4 (u + 1) (by omega)
  have hs := h2 (u + 1) (by omega)
  rw [show st (u + 1) = st u + (st (u + 1) - st u) by omega] at hs
  exact pu_keptBy (show u < 87 by omega) (h2 u (by omega)) hs (by omega) x hN
/-- all units at once -/
def ka (sc wy : Nat → Int64) (st : Nat → Nat) (x : Int64) : Nat → Int64
  | 0 => x
  | u + 1 => ka sc wy st x u &&& uk sc wy st u x
theorem pu_keptAtOnce {n : Nat} {st : Nat → Nat} {sc : Nat → Int64} {sr : Nat → Int32} {wy : Nat → Int64} (h : uo n st sr) (x : Int64) {N : Nat} (hN : 326 < N) : mi_UN_keptAtOnce N (nI n) sc sr wy x = some (ka sc wy st x n) := by
  have hn := h.1
  unfold mi_UN_keptAtOnce
  have hz := lp_up (f := mb_UN_keptAtOnce_5 N (nI n) sc sr wy x) (fun i => (ka sc wy st x i, nI i)) (ka sc wy st x n, nI n) n 0 N ?_ ?_ (by omega)
  · have hz : lp (mb_UN_keptAtOnce_5 N (nI n) sc sr wy x) N (x, (0 : Int32)) = some (ka sc wy st x n, nI n) := hz
    rw [hz]
    rfl
  · intro i _ h2
    unfold mb_UN_keptAtOnce_5
    dsimp only
    rw [if_neg (nI_ge (show i < n by omega) (by omega)), pu_kept h (show i < n by omega) x hN]
    show some (Sum.inl (ka sc wy st x i &&& uk sc wy st i x, nI i + 1)) = _
    rw [nI_1]
    rfl
  · unfold mb_UN_keptAtOnce_5
    dsimp only
    rw [Nat.zero_add, if_pos (nI_le (Nat.le_refl _) (by omega))]
/-- one look at all units, k of them left from u on: what is kept, or nothing when a unit is emptied -/
def np (sc wy : Nat → Int64) (st : Nat → Nat) (news : Int64) : Nat → Nat → Int64 → Option Int64
  | 0, _, kept => some kept
  | k + 1, u, kept => if sc u &&& news = 0 then np sc wy st news k (u + 1) kept else if kept &&& uk sc wy st u kept &&& sc u = 0 then none else np sc wy st news k (u + 1) (kept &&& uk sc wy st u kept)
/-- rule 1, over and over, at most k looks -/
def nr (sc wy : Nat → Int64) (st : Nat → Nat) (n : Nat) : Nat → Int64 → Int64 → Int64
  | 0, kept, _ => kept
  | k + 1, kept, news => if news = 0 then kept else match np sc wy st news n 0 kept with
    | none => 0
    | some kept' => nr sc wy st n k kept' (kept &&& (kept' ^^^ (-1)))
theorem pu_look {n : Nat} {st : Nat → Nat} {sc : Nat → Int64} {sr : Nat → Int32} {wy : Nat → Int64} (h : uo n st sr) {N : Nat} (hN : 326 < N) (x9 : Int64 × Int64 × Int32) : ∀ (k u : Nat) (kept : Int64) (m : Nat), u + k = n → k < m →
    lp (mb_UN_narrow_30 N (nI n) sc sr wy x9) m (kept, nI u) = (match np sc wy st x9.2.1 k u kept with | none => some (.inr 0) | some z => some (.inl (z, nI n))) := by
  have hn := h.1
  intro k
  induction k with
  | zero =>
    intro u kept m hk hm
    obtain ⟨m, rfl⟩ : ∃ q, m = q + 1 := ⟨m - 1, by omega⟩
    have hu : u = n := by omega
    subst hu
    rw [lp_s]
    unfold mb_UN_narrow_30
    dsimp only
    rw [if_pos (nI_le (Nat.le_refl _) (by omega))]
    rfl
  | succ k ih =>
    intro u kept m hk hm
    obtain ⟨m, rfl⟩ : ∃ q, m = q + 1 := ⟨m - 1, by omega⟩
    have cu : (nI u).toNatClampNeg = u := nI_clamp (by omega)
    rw [lp_s]
    unfold mb_UN_narrow_30
    dsimp only
    rw [if_neg (nI_ge (show u < n by omega) (by omega)), if_neg (ix_in (show u < 87 by omega) (by decide)), cu, pu_kept h (show u < n by omega) kept hN, nI_1]
    unfold np
    by_cases c1 : sc u &&& x9.2.1 = 0
    · rw [if_pos c1, if_pos c1]
      exact ih (u + 1) kept m (by omega) (by omega)
    · rw [if_neg c1, if_neg c1]
      by_cases c2 : kept &&& uk sc wy st u kept &&& sc u = 0
      · rw [if_pos c2]
        show (if kept &&& uk sc wy st u kept &&& sc u = 0 then some (Sum.inr (Sum.inr 0)) else some (Sum.inl (kept &&& uk sc wy st u kept, nI (u + 1)))).bind _ = _
        rw [if_pos c2]
        rfl
      · rw [if_neg c2]
        show (if kept &&& uk sc wy st u kept &&& sc u = 0 then some (Sum.inr (Sum.inr 0)) else some (Sum.inl (kept &&& uk sc wy st u kept, nI (u + 1)))).bind _ = _
        rw [if_neg c2]
        exact ih (u + 1) _ m (by omega) (by omega)
theorem pu_rounds {n : Nat} {st : Nat → Nat} {sc : Nat → Int64} {sr : Nat → Int32} {wy : Nat → Int64} (h : uo n st sr) {N : Nat} (hN : 326 < N) : ∀ (k r : Nat) (kept news : Int64) (m : Nat), r + k = 65 → k < m →
    (lp (mb_UN_narrow_9 N (nI n) sc sr wy) m (kept, news, nI r)).bind (Sum.elim mr_UN_narrow_9 (fun z => some z)) = some (nr sc wy st n k kept news) := by
  have hn := h.1
  intro k
  induction k with
  | zero =>
    intro r kept news m hk hm
    obtain ⟨m, rfl⟩ : ∃ q, m = q + 1 := ⟨m - 1, by omega⟩
    rw [lp_s]
    unfold mb_UN_narrow_9
    dsimp only
    rw [if_pos (show (64 : Int32) < nI r from nI_lt (a := 64) (show 64 < r by omega) (by omega))]
    rfl
  | succ k ih =>
    intro r kept news m hk hm
    obtain ⟨m, rfl⟩ : ∃ q, m = q + 1 := ⟨m - 1, by omega⟩
    rw [lp_s]
    unfold mb_UN_narrow_9
    dsimp only
    rw [if_neg (show ¬ (64 : Int32) < nI r from nI_nlt (a := 64) (show r ≤ 64 by omega) (by decide))]
    by_cases c : news = 0
    · rw [if_pos c]
      unfold nr
      rw [if_pos c]
      rfl
    · rw [if_neg c]
      have hq := pu_look (sc := sc) (wy := wy) h hN (kept, news, nI r) n 0 kept N (by omega) (by omega)
      rw [nI_0] at hq
      rw [hq]
      unfold nr
      rw [if_neg c]
      dsimp only
      cases hnp : np sc wy st news n 0 kept with
      | none => rfl
      | some z =>
        show (lp (mb_UN_narrow_9 N (nI n) sc sr wy) m (z, kept &&& (z ^^^ (-1)), nI r + 1)).bind _ = _
        rw [nI_1]
        exact ih (r + 1) z _ m (by omega) (by omega)
/-- narrow is 'nr' with 65 looks -/
theorem pu_narrow {n : Nat} {st : Nat → Nat} {sc : Nat → Int64} {sr : Nat → Int32} {wy : Nat → Int64} (h : uo n st sr) (x c : Int64) {N : Nat} (hN : 326 < N) : mi_UN_narrow N (nI n) sc sr wy x c = some (nr sc wy st n 65 x c) := by
  unfold mi_UN_narrow
  have hq := pu_rounds (sc := sc) (wy := wy) h hN 65 0 x c N (by omega) (by omega)
  rw [nI_0] at hq
  exact hq
/-- has each of k units from u on a way? -/
def hf (st : Nat → Nat) : Nat → Nat → Bool
  | 0, _ => true
  | k + 1, u => decide (¬ st u = st (u + 1)) && hf st k (u + 1)
theorem pu_have {n : Nat} {st : Nat → Nat} {sr : Nat → Int32} (h : uo n st sr) : ∀ (k u m : Nat), u + k = n → k < m →
    (lp (mb_UN_haveWays_2 (nI n) sr) m (nI u)).bind (Sum.elim mr_UN_haveWays_2 (fun z => some z)) = some (if hf st k u = true then 1 else 0) := by
  have hn := h.1
  intro k
  induction k with
  | zero =>
    intro u m hk hm
    obtain ⟨m, rfl⟩ : ∃ q, m = q + 1 := ⟨m - 1, by omega⟩
    have hu : u = n := by omega
    subst hu
    rw [lp_s]
    unfold mb_UN_haveWays_2
    rw [if_pos (nI_le (Nat.le_refl _) (by omega))]
    rfl
  | succ k ih =>
    intro u m hk hm
    obtain ⟨m, rfl⟩ : ∃ q, m = q + 1 := ⟨m - 1, by omega⟩
    have cu : (nI u).toNatClampNeg = u := nI_clamp (by omega)
    have cu1 : (nI (u + 1)).toNatClampNeg = u + 1 := nI_clamp (by omega)
    have b0 := h.2.2.2 u (by omega)
    have b1 := h.2.2.2 (u + 1) (by omega)
    rw [lp_s]
    unfold mb_UN_haveWays_2
    rw [if_neg (nI_ge (show u < n by omega) (by omega)), if_neg (ix_in (show u < 88 by omega) (by decide)), nI_1, if_neg (ix_in (show u + 1 < 88 by omega) (by decide)), cu, cu1, h.2.1 u (by omega), h.2.1 (u + 1) (by omega)]
    unfold hf
    by_cases c : st u = st (u + 1)
    · rw [if_pos (by rw [c])]
      simp only [c, not_true_eq_false, decide_false, Bool.false_and, Bool.false_eq_true, if_false]
      rfl
    · rw [if_neg (fun q => c ((nI_eq (by omega) (by omega)).mp q))]
      simp only [c, not_false_eq_true, decide_true, Bool.true_and]
      exact ih (u + 1) m (by omega) (by omega)
theorem pu_haveWays {n : Nat} {st : Nat → Nat} {sr : Nat → Int32} (h : uo n st sr) {N : Nat} (hN : 326 < N) : mi_UN_haveWays N (nI n) sr = some (if hf st n 0 = true then 1 else 0) := by
  unfold mi_UN_haveWays
  have hq := pu_have h n 0 N (by omega) (by have := h.1; omega)
  rw [nI_0] at hq
  exact hq
