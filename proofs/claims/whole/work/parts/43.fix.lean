/-! Pure rows: what no unit takes anything of (closed sets) stays under narrow -/
/-- no unit takes anything of y -/
def clo (n : Nat) (sc wy : Nat → Int64) (st : Nat → Nat) (y : Int64) : Prop := ∀ u, u < n → su y (uk sc wy st u y)
theorem np_sub {sc wy : Nat → Int64} {st : Nat → Nat} {news : Int64} : ∀ (k u : Nat) (kept z : Int64), np sc wy st news k u kept = some z → su z kept := by
  intro k
  induction k with
  | zero => intro u kept z h; have q := Option.some.inj h; subst q; exact su_rf _
  | succ k ih =>
    intro u kept z h
    unfold np at h
    by_cases c1 : sc u &&& news = 0
    · rw [if_pos c1] at h
      exact ih (u + 1) kept z h
    · rw [if_neg c1] at h
      by_cases c2 : kept &&& uk sc wy st u kept &&& sc u = 0
      · rw [if_pos c2] at h; exact absurd h on
      · rw [if_neg c2] at h
        exact su_tr (ih (u + 1) _ z h) (su_and_l _ _)
theorem np_keep {n : Nat} {sc wy : Nat → Int64} {st : Nat → Nat} {news y : Int64} (hm : ∀ u, u < n → st u ≤ st (u + 1)) (hc : clo n sc wy st y) : ∀ (k u : Nat) (kept : Int64), u + k ≤ n → su y kept →
    (∃ z, np sc wy st news k u kept = some z ∧ su y z) ∨ (np sc wy st news k u kept = none ∧ ∃ v, v < n ∧ ¬ sc v &&& news = 0 ∧ y &&& sc v = 0) := by
  intro k
  induction k with
  | zero => intro u kept _ h; exact Or.inl ⟨kept, rfl, h⟩
  | succ k ih =>
    intro u kept hn hy
    unfold np
    by_cases c1 : sc u &&& news = 0
    · rw [if_pos c1]
      exact ih (u + 1) kept (by omega) hy
    · rw [if_neg c1]
      have hz : su y (kept &&& uk sc wy st u kept) := su_and hy (su_tr (hc u (by omega)) (uk_mono (hm u (by omega)) hy))
      by_cases c2 : kept &&& uk sc wy st u kept &&& sc u = 0
      · rw [if_pos c2]
        refine Or.inr ⟨rfl, u, by omega, c1, ?_⟩
        apply tb_ext
        intro b _
        have h1 : tb (kept &&& uk sc wy st u kept &&& sc u) b = tb 0 b := by rw [c2]
        rw [tb_and] at h1
        rw [tb_and]
        cases hb : tb y b with
        | false => rw [tb_0]; rfl
        | true => rw [hz b hb] at h1; exact h1
      · rw [if_neg c2]
        exact ih (u + 1) _ (by omega) hz
theorem nr_sub {n : Nat} {sc wy : Nat → Int64} {st : Nat → Nat} : ∀ (k : Nat) (kept news : Int64), su (nr sc wy st n k kept news) kept := by
  intro k
  induction k with
  | zero => intro kept news; exact su_rf _
  | succ k ih =>
    intro kept news
    unfold nr
    by_cases c : news = 0
    · rw [if_pos c]; exact su_rf _
    · rw [if_neg c]
      cases h : np sc wy st news n 0 kept with
      | none => exact fun b hb => absurd hb (by rw [tb_0]; decide)
      | some z => exact su_tr (ih z _) (np_sub n 0 kept z h)
/-- a closed set that lies in 'kept' stays, or narrow has found a unit none of whose candidates are in it -/
theorem nr_keep {n : Nat} {sc wy : Nat → Int64} {st : Nat → Nat} {y : Int64} (hm : ∀ u, u < n → st u ≤ st (u + 1)) (hc : clo n sc wy st y) : ∀ (k : Nat) (kept news : Int64), su y kept →
    su y (nr sc wy st n k kept news) ∨ (nr sc wy st n k kept news = 0 ∧ ∃ v, v < n ∧ ¬ sc v = 0 ∧ y &&& sc v = 0) := by
  intro k
  induction k with
  | zero => intro kept news h; exact Or.inl h
  | succ k ih =>
    intro kept news hy
    unfold nr
    by_cases c : news = 0
    · rw [if_pos c]; exact Or.inl hy
    · rw [if_neg c]
      rcases np_keep (news := news) hm hc n 0 kept (by omega) hy with ⟨z, h1, h2⟩ | ⟨h1, v, h2, h3, h4⟩
      · rw [h1]
        exact ih z _ h2
      · rw [h1]
        exact Or.inr ⟨rfl, v, h2, fun q => h3 (by rw [q]; apply tb_ext; intro b _; rw [tb_and, tb_0]; rfl), h4⟩
