/-! Pure rows: what narrow leaves is closed -/
/-- the ways of each unit lie in its scope -/
def wsc (n : Nat) (sc wy : Nat → Int64) (st : Nat → Nat) : Prop := ∀ u, u < n → ∀ i, st u ≤ i → i < st (u + 1) → su (wy i) (sc u)
/-- a unit looks at its own candidates alone -/
theorem uk_dep {n : Nat} {sc wy : Nat → Int64} {st : Nat → Nat} (hw : wsc n sc wy st) (hm : ∀ u, u < n → st u ≤ st (u + 1)) {u : Nat} (hu : u < n) {x y : Int64} (h : ∀ b, tb (sc u) b = true → tb x b = true → tb y b = true) : su (uk sc wy st u x) (uk sc wy st u y) := by
  intro b hx
  by_cases hb : b < 64
  · rw [uk_bit (hm u hu) x hb] at hx
    rw [uk_bit (hm u hu) y hb]
    rcases hx with h1 | ⟨i, h1, h2, h3, h4⟩
    · exact Or.inl h1
    · exact Or.inr ⟨i, h1, h2, fun c hc => h c (hw u hu i h1 h2 c hc) (h3 c hc), h4⟩
  · rw [tb_big (by omega)] at hx
    exact absurd hx (by decide)
/-- how many bits below b -/
def cn (x : Int64) : Nat → Nat
  | 0 => 0
  | b + 1 => cn x b + (if tb x b = true then 1 else 0)
theorem cn_le (x : Int64) : ∀ b, cn x b ≤ b := by
  intro b
  induction b with
  | zero => exact Nat.le_refl _
  | succ b ih => unfold cn; split <;> omega
theorem cn_mono {z x : Int64} (h : su z x) : ∀ b, cn z b ≤ cn x b := by
  intro b
  induction b with
  | zero => exact Nat.le_refl _
  | succ b ih =>
    unfold cn
    cases hz : tb z b with
    | true => rw [if_pos rfl, if_pos (h b hz)]; omega
    | false => rw [if_neg (by decide)]; omega
theorem cn_lt {z x : Int64} (h : su z x) {c : Nat} (hx : tb x c = true) (hz : tb z c = false) : ∀ b, c < b → cn z b < cn x b := by
  intro b
  induction b with
  | zero => intro hc; omega
  | succ b ih =>
    intro hc
    unfold cn
    by_cases e : c = b
    · subst e
      rw [hz, hx, if_neg (by decide), if_pos rfl]
      have := cn_mono h c
      omega
    · have h1 := ih (by omega)
      cases hz' : tb z b with
      | true => rw [if_pos rfl, if_pos (h b hz')]; omega
      | false => rw [if_neg (by decide)]; omega
/-- what was taken is news: none, or fewer candidates -/
theorem cn_news {z x : Int64} (h : su z x) : x &&& (z ^^^ (-1)) = 0 ∨ cn z 64 < cn x 64 := by
  by_cases c : x &&& (z ^^^ (-1)) = 0
  · exact Or.inl c
  · refine Or.inr ?_
    by_cases e : ∃ b, b < 64 ∧ tb x b = true ∧ tb z b = false
    · obtain ⟨b, h1, h2, h3⟩ := e
      exact cn_lt h h2 h3 64 h1
    · refine absurd ((su_iff x z).mpr (fun b hb => ?_)) c
      by_cases hb64 : b < 64
      · cases hz : tb z b with
        | true => rfl
        | false => exact absurd ⟨b, hb64, hb, hz⟩ e
      · rw [tb_big (by omega)] at hb
        exact absurd hb (by decide)
/-- each unit that a look touches has been looked at: at some w between -/
theorem np_seen {sc wy : Nat → Int64} {st : Nat → Nat} {news : Int64} : ∀ (k u : Nat) (kept z : Int64), np sc wy st news k u kept = some z → ∀ v, u ≤ v → v < u + k → ¬ sc v &&& news = 0 → ∃ w, su w kept ∧ su z w ∧ su z (uk sc wy st v w) := by
  intro k
  induction k with
  | zero => intro u kept z _ v h1 h2; omega
  | succ k ih =>
    intro u kept z h v h1 h2 h3
    have hsub := h
    unfold np at h
    by_cases c1 : sc u &&& news = 0
    · rw [if_pos c1] at h
      by_cases e : v = u
      · subst e; exact absurd c1 h3
      · exact ih (u + 1) kept z h v (by omega) (by omega) h3
    · rw [if_neg c1] at h
      by_cases c2 : kept &&& uk sc wy st u kept &&& sc u = 0
      · rw [if_pos c2] at h; exact absurd h on
      · rw [if_neg c2] at h
        have hz := np_sub k (u + 1) _ z h
        by_cases e : v = u
        · subst e
          exact ⟨kept, su_rf _, su_tr hz (su_and_l _ _), su_tr hz (su_and_r _ _)⟩
        · obtain ⟨w, g1, g2, g3⟩ := ih (u + 1) _ z h v (by omega) (by omega) h3
          exact ⟨w, su_tr g1 (su_and_l _ _), g2, g3⟩
/-- the units without news take nothing -/
def inv (n : Nat) (sc wy : Nat → Int64) (st : Nat → Nat) (kept news : Int64) : Prop := ∀ u, u < n → sc u &&& news = 0 → su kept (uk sc wy st u kept)
theorem inv_step {n : Nat} {sc wy : Nat → Int64} {st : Nat → Nat} (hw : wsc n sc wy st) (hm : ∀ u, u < n → st u ≤ st (u + 1)) {kept news z : Int64} (hi : inv n sc wy st kept news) (h : np sc wy st news n 0 kept = some z) : inv n sc wy st z (kept &&& (z ^^^ (-1))) := by
  intro u hu hz
  have hsub := np_sub n 0 kept z h
  have hon : ∀ b, tb (sc u) b = true → tb kept b = true → tb z b = true := by
    intro b h1 h2
    by_cases hb : b < 64
    · have h3 : tb (sc u &&& (kept &&& (z ^^^ (-1)))) b = tb 0 b := by rw [hz]
      rw [tb_and, tb_and, tb_not z hb, tb_0, h1, h2] at h3
      cases hzb : tb z b with
      | true => rfl
      | false => rw [hzb] at h3; exact absurd h3 (by decide)
    · rw [tb_big (by omega)] at h1
      exact absurd h1 (by decide)
  by_cases c : sc u &&& news = 0
  · exact su_tr hsub (su_tr (hi u hu c) (uk_dep hw hm hu hon))
  · obtain ⟨w, g1, g2, g3⟩ := np_seen n 0 kept z h u (by omega) (by omega) c
    exact su_tr g3 (uk_dep hw hm hu (fun b h1 h2 => hon b h1 (g1 b h2)))
theorem clo_0 {n : Nat} {sc wy : Nat → Int64} {st : Nat → Nat} : clo n sc wy st 0 := fun u _ b hb => absurd hb (by rw [tb_0]; decide)
/-- what narrow leaves is closed -/
theorem nr_clo {n : Nat} {sc wy : Nat → Int64} {st : Nat → Nat} (hw : wsc n sc wy st) (hm : ∀ u, u < n → st u ≤ st (u + 1)) : ∀ (k : Nat) (kept news : Int64), inv n sc wy st kept news → (news = 0 ∨ cn kept 64 < k) → clo n sc wy st (nr sc wy st n k kept news) := by
  have h0 : ∀ {kept news : Int64}, news = 0 → inv n sc wy st kept news → clo n sc wy st kept := by
    intro kept news c hi u hu
    exact hi u hu (by rw [c]; apply tb_ext; intro b _; rw [tb_and, tb_0]; exact Bool.and_false _)
  intro k
  induction k with
  | zero =>
    intro kept news hi hc
    rcases hc with c | c
    · exact h0 c hi
    · omega
  | succ k ih =>
    intro kept news hi hc
    unfold nr
    by_cases c : news = 0
    · rw [if_pos c]; exact h0 c hi
    · rw [if_neg c]
      cases h : np sc wy st news n 0 kept with
      | none => exact clo_0
      | some z =>
        refine ih z _ (inv_step hw hm hi h) ?_
        rcases cn_news (np_sub n 0 kept z h) with e | e
        · exact Or.inl e
        · rcases hc with c' | c'
          · exact absurd c' c
          · exact Or.inr (by omega)
