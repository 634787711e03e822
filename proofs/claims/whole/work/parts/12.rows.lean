/-! Rows of my own over the kit: mirrors (Option, loops with fuel), contracts over one whole world, calls in one line. -/
/-- a loop: f s = some (inl s') goes on, some (inr e) ends -/
def lp {σ ε : Type} (f : σ → Option (σ ⊕ ε)) : Nat → σ → Option ε
  | 0, _ => none
  | n + 1, s => (f s).bind (Sum.elim (lp f n) some)
theorem lp_0 {σ ε : Type} {f : σ → Option (σ ⊕ ε)} {s : σ} {e : ε} : ¬ lp f 0 s = some e := by
  intro h
  simp [lp] at h
theorem lp_s {σ ε : Type} (f : σ → Option (σ ⊕ ε)) (n : Nat) (s : σ) : lp f (n + 1) s = (f s).bind (Sum.elim (lp f n) some) := rfl
theorem ob {α β : Type} {x : Option α} {f : α → Option β} {b : β} {G : Prop} (h : x.bind f = some b) (k : ∀ a, x = some a → f a = some b → G) : G := by
  cases x with
  | none => exact absurd h (fun q => nomatch q)
  | some a => exact k a rfl h
theorem oi {β : Type} {c : Prop} [Decidable c] {A B : Option β} {b : β} (h : (if c then A else B) = some b) (hc : c) : A = some b := by rw [if_pos hc] at h; exact h
theorem oe {β : Type} {c : Prop} [Decidable c] {A B : Option β} {b : β} (h : (if c then A else B) = some b) (hc : ¬ c) : B = some b := by rw [if_neg hc] at h; exact h
theorem oc {β : Type} {c : Prop} [Decidable c] {B : Option β} {b : β} {G : Prop} (h : (if c then none else B) = some b) (k : ¬ c → B = some b → G) : G := by
  by_cases hc : c
  · rw [if_pos hc] at h; exact absurd h (fun q => nomatch q)
  · exact k hc (oe h hc)
theorem on {β : Type} {b : β} : ¬ (none : Option β) = some b := fun h => nomatch h
theorem fw_nz {v : Int32} (h : ¬ ¬ (v = 0 ∨ v = 1)) : narrow .boolean (.int v) = .int v := by
  rcases Decidable.not_not.mp h with h | h <;> subst h <;> rfl
abbrev fr (f n : Nat) : Room := { frames := f, cells := 0, slots := 0, locals := n }
def fw_H (D : va_G) (cl : List vw_C) (A : Nat → Prop) (H0 : Heap) (ws : va_W) (H : Heap) (locs : List Loc) : Prop := va_P D cl ws H ∧ va_D A ws ∧ va_S A H0 H locs
/-- the tables: classes and array classes, and the words that no reader of steady words carries -/
def Kx (D : va_G) (cl : List vw_C) (tys : List (ClassId × FieldType)) (U : State) : Prop := va_K D cl tys U ∧ ∀ w ∈ Nws, va_Nw w U
theorem Kx.warm {D : va_G} {cl : List vw_C} {tys : List (ClassId × FieldType)} {s U : State} (hW : s.WarmedH U.vm) (h : Kx D cl tys s) : Kx D cl tys U := ⟨va_K.moved hW.alike h.1, fun w hw => Nws_warm w hw hW (h.2 w hw)⟩
theorem Kx.same {D : va_G} {cl : List vw_C} {tys : List (ClassId × FieldType)} {s U : State} (hv : s.vm = U.vm) (h : Kx D cl tys s) : Kx D cl tys U := ⟨va_K.moved (by rw [hv]; exact Vm.Alike.refl _) h.1, fun w hw => va_Nw.same (Nws_tab w hw) hv (h.2 w hw)⟩
def fw_Q (D : va_G) (cl : List vw_C) (tys : List (ClassId × FieldType)) (A : Nat → Prop) (v : Option Value) (w1 : va_W) : Array Value → State → Outcome → State → Prop := fun _ st oc t => (oc = .returned v ∧ va_P D cl w1 t.heap ∧ Kx D cl tys t ∧ va_D A w1) ∧ va_F A st t
/-- a contract: from the world w0, with the arguments av, the method returns v, and the world is w1 -/
def fw_C (l : Launch) (y : MethodName) (ws : List Cond) (rm : Room) (D : va_G) (cl : List vw_C) (tys : List (ClassId × FieldType)) (av : List Value) (w0 : va_W) (v : Option Value) (w1 : va_W) : Prop := ∀ sz : Nat, Met l y ws rm (va_Pc av (fun U => U.heap.size = sz ∧ va_P D cl w0 U.heap ∧ Kx D cl tys U ∧ va_D (fun _ => True) w0)) (fw_Q D cl tys (va_A w0 sz) v w1) 0 0 (va_A w0 sz)
theorem fw_of {l : Launch} {y : MethodName} {ws' : List Cond} {rm : Room} {D : va_G} {cl : List vw_C} {tys : List (ClassId × FieldType)} {av : List Value} {w0 : va_W} {v : Option Value} {w1 : va_W} {cc : ByteArray} {maxL : Nat} {ret : Option FieldType}
    (hy : plainName y.cls = true) (hlen : (lg_sl av).length ≤ maxL)
    (body : ∀ (p : Program) (e : Env) (s : State) (m : MethodId) (args : Array Value) (below : List Frame) (meth : Method) (c : Code) (ls : Array Slot) (A : Nat → Prop) (R : Room) (Q : State → Prop), R = rm → Q = MQ below (fw_Q D cl tys A v w1) args s 0 0 A → CallFix p m c cc maxL s args ws' y.cls → meth.sig.returnType = ret → meth.locks = false → Kx D cl tys s → (∀ q : Nat, s.heap.size ≤ q → A q) → lv_has ls maxL (lv_args 0 av) → fw_H D cl A s.heap w0 s.heap [] →
      W p l e R s m args below meth c s.heap [] 0 0 Q (F0 m 0 ls [])) : fw_C l y (Cond.code y cc maxL ret :: ws') rm D cl tys av w0 v w1 := by
  intro sz
  refine Met.ofW (cc := cc) (maxL := maxL) (ret := ret) hy rfl ?_
  intro p e s m args below meth c s₁ B hml hv
  obtain ⟨rfl, hsz, hP, hK, hD0⟩ := hv
  have hts := atoms_spec (ws := Cond.code y cc maxL ret :: ws') B.pre
  subst hsz
  rw [lg_entry_eq]
  exact body p e s m _ below meth c _ _ _ _ rfl rfl ⟨B.exec, B.bytes, hml, findClass_of_methodNamed B.named, fun w h => hts w (List.mem_cons_of_mem _ h)⟩ B.returns B.notSynchronized hK (fun q h => Or.inr h) (lv_entry av hlen) ⟨hP, hD0.self, va_S.rf⟩
section FW
variable {p : Program} {l : Launch} {e : Env} {R : Room} {s : State} {m : MethodId} {args : Array Value} {below : List Frame} {meth : Method} {c : Code} {H : Heap} {locs : List Loc} {cells slots : Nat} {Q : State → Prop}
variable {cc : ByteArray} {pc nL : Nat} {ls : Array Slot} {rest st0 st1 : List Value} {D : va_G} {cl : List vw_C} {A : Nat → Prop} {tys : List (ClassId × FieldType)} {w0 w1 : va_W} {Ts : List Cond} {own : String}
theorem fw_iret {v : Int32} (hQ : Q = MQ below (fw_Q D cl tys A (some (.int v)) w1) args s cells slots A) (S : CallFix p m c cc nL s args Ts own) (hr : meth.sig.returnType = some .int) (hlk : meth.locks = false) (hX : Kx D cl tys s) (hw : fw_H D cl A s.heap w1 H locs) (hdg : decode cc pc = .ok (.ireturn, 1)) : W p l e R s m args below meth c H locs cells slots Q (F0 m pc ls [.int v]) := by
  subst hQ
  exact W.iret S.1 S.2.1 hr (fun t ht hW => ⟨⟨rfl, by rw [ht]; exact hw.1, Kx.warm hW hX, hw.2.1⟩, hw.2.2.F ht⟩) hw.2.2.2.2 hdg hlk
theorem fw_zret {v : Int32} (hQ : Q = MQ below (fw_Q D cl tys A (some (.int v)) w1) args s cells slots A) (S : CallFix p m c cc nL s args Ts own) (hr : meth.sig.returnType = some .boolean) (hn : narrow .boolean (.int v) = .int v) (hlk : meth.locks = false) (hX : Kx D cl tys s) (hw : fw_H D cl A s.heap w1 H locs) (hdg : decode cc pc = .ok (.ireturn, 1)) : W p l e R s m args below meth c H locs cells slots Q (F0 m pc ls [.int v]) := by
  subst hQ
  exact W.zret S.1 S.2.1 hr hn (fun t ht hW => ⟨⟨rfl, by rw [ht]; exact hw.1, Kx.warm hW hX, hw.2.1⟩, hw.2.2.F ht⟩) hw.2.2.2.2 hdg hlk
theorem fw_lret {v : Int64} (hQ : Q = MQ below (fw_Q D cl tys A (some (.long v)) w1) args s cells slots A) (S : CallFix p m c cc nL s args Ts own) (hr : meth.sig.returnType = some .long) (hlk : meth.locks = false) (hX : Kx D cl tys s) (hw : fw_H D cl A s.heap w1 H locs) (hdg : decode cc pc = .ok (.lreturn, 1)) : W p l e R s m args below meth c H locs cells slots Q (F0 m pc ls [.long v]) := by
  subst hQ
  exact W.lret S.1 S.2.1 hr (fun t ht hW => ⟨⟨rfl, by rw [ht]; exact hw.1, Kx.warm hW hX, hw.2.1⟩, hw.2.2.F ht⟩) hw.2.2.2.2 hdg hlk
theorem fw_vret (hQ : Q = MQ below (fw_Q D cl tys A none w1) args s cells slots A) (S : CallFix p m c cc nL s args Ts own) (hr : meth.sig.returnType = none) (hlk : meth.locks = false) (hX : Kx D cl tys s) (hw : fw_H D cl A s.heap w1 H locs) (hdg : decode cc pc = .ok (.return_, 1)) : W p l e R s m args below meth c H locs cells slots Q (F0 m pc ls []) := by
  subst hQ
  exact W.vret S.1 S.2.1 hr (fun t ht hW => ⟨⟨rfl, by rw [ht]; exact hw.1, Kx.warm hW hX, hw.2.1⟩, hw.2.2.F ht⟩) hw.2.2.2.2 hdg hlk
theorem fw_cmp0 (x y : Int64) : lg_cmp x y = 0 ↔ x = y := by
  unfold lg_cmp
  by_cases h : x = y
  · subst h
    rw [if_neg (by rw [gt_iff_lt, Int64.lt_iff_toInt_lt]; omega), if_pos rfl]
    exact ⟨fun _ => rfl, fun _ => rfl⟩
  · refine ⟨fun q => ?_, fun q => absurd q h⟩
    by_cases g : x > y
    · rw [if_pos g] at q; exact absurd q (by decide)
    · rw [if_neg g, if_neg h] at q; exact absurd q (by decide)
theorem fw_lcmpE (hx : p.tables.exec = Jvm.exec) (hb : c.code = cc) {x y : Int64} {off : Int} {tgt : Nat} (hd1 : decode cc pc = .ok (.lcmp, 1)) (hd2 : decode cc (pc + 1) = .ok (.ifCond .eq off, 3)) (ht : ((pc + 1 : Nat) : Int) + off = (tgt : Int))
    (kt : x = y → W p l e R s m args below meth c H locs cells slots Q (F0 m tgt ls rest)) (kf : ¬ x = y → W p l e R s m args below meth c H locs cells slots Q (F0 m (pc + 4) ls rest)) : W p l e R s m args below meth c H locs cells slots Q (F0 m pc ls (.long y :: .long x :: rest)) :=
  W.lcmp hx hb hd1 (lv_if_eq hx hb hd2 ht (fun h => kt ((fw_cmp0 x y).mp h)) (fun h => kf (fun q => h ((fw_cmp0 x y).mpr q))))
theorem fw_lcmpN (hx : p.tables.exec = Jvm.exec) (hb : c.code = cc) {x y : Int64} {off : Int} {tgt : Nat} (hd1 : decode cc pc = .ok (.lcmp, 1)) (hd2 : decode cc (pc + 1) = .ok (.ifCond .ne off, 3)) (ht : ((pc + 1 : Nat) : Int) + off = (tgt : Int))
    (kt : ¬ x = y → W p l e R s m args below meth c H locs cells slots Q (F0 m tgt ls rest)) (kf : x = y → W p l e R s m args below meth c H locs cells slots Q (F0 m (pc + 4) ls rest)) : W p l e R s m args below meth c H locs cells slots Q (F0 m pc ls (.long y :: .long x :: rest)) :=
  W.lcmp hx hb hd1 (lv_if_ne hx hb hd2 ht (fun h => kt (fun q => h ((fw_cmp0 x y).mpr q))) (fun h => kf ((fw_cmp0 x y).mp h)))
/-- behind a call over the whole world -/
theorem fw_go {v : Option Value} {a : Array Value} (hr : va_Run p l e R s m args below meth c H locs cells slots 0 0 (F0 m pc ls st0) rest (fw_Q D cl tys (va_A w0 H.size) v w1 a) (va_A w0 H.size)) (hw : fw_H D cl A s.heap w0 H locs) (hA : ∀ q : Nat, s.heap.size ≤ q → A q) (h1 : v.toList ++ rest = st1)
    (kk : ∀ (H : Heap) (locs : List Loc), fw_H D cl A s.heap w1 H locs → W p l e R s m args below meth c H locs cells slots Q (F0 m (pc + 3) ls st1)) : W p l e R s m args below meth c H locs cells slots Q (F0 m pc ls st0) := by
  intro T hT X
  have hF : ∀ q, va_A w0 H.size q → A q := by
    intro q h
    rcases h with ⟨k, x, h⟩ | h
    · exact hw.2.1.2 k _ h
    · exact hA q (Nat.le_trans hw.2.2.1 h)
  obtain ⟨v', st₀, t, T', L, h0, X', hL, e1, e2, ⟨⟨hv, hP1, hK1, hD1⟩, hz, hk⟩, st⟩ := hr T hT X
  cases hv
  rw [h0] at hz hk
  subst h1
  obtain ⟨t2, a1, b1⟩ := kk T'.heap (locs ++ L) ⟨by rw [e1]; exact hP1, hD1.weaken (fun _ q _ h => hF q.1 h), Nat.le_trans hw.2.2.1 (by rw [e1]; exact hz), fun q g1 g2 => by rw [e1, hk q (Nat.lt_of_lt_of_le g1 hw.2.2.1) (fun z => g2 (hF q z))]; exact hw.2.2.2.1 q g1 g2, fun q hq => by
      rcases List.mem_append.mp hq with h | h
      · exact hw.2.2.2.2 q h
      · exact hF _ (hL q h)⟩ T' rfl X'
  exact ⟨t2, st t2 a1, b1⟩
theorem fw_pre {av : List Value} (hX : Kx D cl tys s) (hw : fw_H D cl A s.heap w0 H locs) : PreS s H (va_Pc av (fun U => U.heap.size = H.size ∧ va_P D cl w0 U.heap ∧ Kx D cl tys U ∧ va_D (fun _ => True) w0)) av :=
  ⟨fun a U g mk q => by obtain ⟨q0, q1, qP, qK, qD⟩ := q; exact ⟨q0, q1, qP, Kx.same (s := U) (U := U.calling g mk a) rfl qK, qD⟩, fun U hU hW => ⟨rfl, by rw [hU], by rw [hU]; exact hw.1, Kx.warm hW hX, hw.2.1.weaken (fun _ _ _ _ => trivial)⟩⟩
end FW
abbrev wC (ad : Nat → Nat) (cI cL : ClassId) (kk : Nat) (kn : Int32) (le : Int64) (ff : Int64) (fo : Int32) (ct : Int32) (fx : Int32) (gv : Nat → Int32) (pg : Nat → Int32) (cu : Nat → Int32) (co : Nat → Int32) (sg : Nat → Int32) (ru : Nat → Int32) (nu : Nat → Int32) (tg : Nat → Int32) (sc : Nat → Int64) (sr : Nat → Int32) (wy : Nat → Int64) : va_W := [(ad 0, .inr (0, [.ref (ad 1), .ref (ad 2), .ref (ad 3), .ref (ad 4), .ref (ad 6), .ref (ad kk), .int kn, .long le])),
  (ad 1, .inr (1, [.int 5, .int 25, .int 0, .int 2, .int 0, .ref (ad 7), .ref (ad 8), .ref (ad 9)])),
  (ad 2, .inr (2, [.int 4, .int 16, .int 1, .int 4, .int 16, .ref (ad 10), .ref (ad 11), .ref (ad 12)])),
  (ad 3, .inr (3, [.int 5, .int 25, .int 0, .int 2, .int 5, .ref (ad 13)])),
  (ad 4, .inr (4, [.ref (ad 5), .long ff, .int fo])),
  (ad 5, .inr (5, [.ref (ad 14), .ref (ad 15), .ref (ad 16), .int ct, .int fx])),
  (ad 6, .inl (cI, 25, .inl gv)),
  (ad 7, .inl (cI, 25, .inl pg)),
  (ad 8, .inl (cI, 10, .inl cu)),
  (ad 9, .inl (cI, 32, .inl co)),
  (ad 10, .inl (cI, 16, .inl sg)),
  (ad 11, .inl (cI, 16, .inl ru)),
  (ad 12, .inl (cI, 16, .inl nu)),
  (ad 13, .inl (cI, 25, .inl tg)),
  (ad 14, .inl (cL, 87, .inr (.inl sc))),
  (ad 15, .inl (cI, 88, .inl sr)),
  (ad 16, .inl (cL, 326, .inr (.inl wy)))]
abbrev wM (ad : Nat → Nat) (cI cL : ClassId) (th : Int32) (ki : Int32) (ce : Int32) (wi : Int32) (ma : Int32) (fo : Int32) (cu : Nat → Int32) (gr : Nat → Int32) (ru : Nat → Int32) (nu : Nat → Int32) (gv : Nat → Int32) (ca : Nat → Int32) (nw : Nat → Int32) (lo : Nat → Int32) (ke : Nat → Int32) (un : Nat → Int32) (cn : Nat → Int32) (fi : Nat → Int32) (fl : Nat → Int32) (pa : Nat → Int32) (sh : Nat → Int32) (od : Nat → Int32) (bd : Nat → Int32) (bs : Nat → Int32) : va_W := [(ad 0, .inr (6, [.int th, .int ki, .int ce, .int wi, .ref (ad 1), .ref (ad 2), .ref (ad 3), .ref (ad 4), .ref (ad 5), .ref (ad 6), .ref (ad 7), .ref (ad 8), .ref (ad 9), .int ma, .ref (ad 10), .ref (ad 11), .int fo, .ref (ad 12), .ref (ad 13), .ref (ad 14), .ref (ad 15), .ref (ad 16), .ref (ad 17), .ref (ad 18)])),
  (ad 1, .inl (cI, 10, .inl cu)),
  (ad 2, .inl (cI, 25, .inl gr)),
  (ad 3, .inl (cI, 16, .inl ru)),
  (ad 4, .inl (cI, 16, .inl nu)),
  (ad 5, .inl (cI, 25, .inl gv)),
  (ad 6, .inl (cI, 25, .inl ca)),
  (ad 7, .inl (cI, 25, .inl nw)),
  (ad 8, .inl (cI, 25, .inl lo)),
  (ad 9, .inl (cI, 25, .inl ke)),
  (ad 10, .inl (cI, 25, .inl un)),
  (ad 11, .inl (cI, 25, .inl cn)),
  (ad 12, .inl (cI, 25, .inl fi)),
  (ad 13, .inl (cI, 25, .inl fl)),
  (ad 14, .inl (cI, 5, .inl pa)),
  (ad 15, .inl (cI, 32, .inl sh)),
  (ad 16, .inl (cI, 24, .inl od)),
  (ad 17, .inl (cI, 25, .inl bd)),
  (ad 18, .inl (cI, 200, .inl bs))]
/-! Calls over the whole world, in one line each; the kinds' fields -/
abbrev tyA (cI cL : ClassId) : List (ClassId × FieldType) := [(cI, .int), (cL, .long)]
abbrev K3 (k : Nat) : Prop := k = 1 ∨ k = 2 ∨ k = 3
theorem K3_1 : K3 1 := Or.inl rfl
theorem K3_2 : K3 2 := Or.inr (Or.inl rfl)
theorem K3_3 : K3 3 := Or.inr (Or.inr rfl)
def k_side (k : Nat) : Int32 := if k = 2 then 4 else 5
def k_cells (k : Nat) : Int32 := if k = 2 then 16 else 25
def k_least (k : Nat) : Int32 := if k = 2 then 1 else 0
def k_values (k : Nat) : Int32 := if k = 2 then 4 else 2
def k_groups (k : Nat) : Int32 := if k = 1 then 0 else if k = 2 then 16 else 5
theorem gw_in {pre : List Cond} {y : MethodName} {bytes : ByteArray} {maxL : Nat} {ret : Option FieldType} (hp : ∀ w ∈ pre, w ∈ Gw) (hc : Cond.code y bytes maxL ret ∈ Gw) : GoodIn Gw (pre ++ (Cond.code y bytes maxL ret :: Gw)) := by
  intro w hw
  have h : w ∈ Gw := by
    rcases List.mem_append.mp hw with h | h
    · exact hp w h
    · rcases List.mem_cons.mp h with h | h
      · rw [h]; exact hc
      · exact h
  exact ⟨h, Gw_good w h⟩
section FC
variable {p : Program} {l : Launch} {e : Env} {R : Room} {s : State} {m : MethodId} {args : Array Value} {below : List Frame} {meth : Method} {c : Code} {H : Heap} {locs : List Loc} {cells slots : Nat} {Q : State → Prop}
variable {cc : ByteArray} {pc nL : Nat} {ls : Array Slot} {rest st0 st1 : List Value} {D : va_G} {cl : List vw_C} {A : Nat → Prop} {tys : List (ClassId × FieldType)} {w0 w1 : va_W} {own : String}
variable {y x : MethodName} {bytes : ByteArray} {maxL index n : Nat} {ret : Option FieldType} {rm : Room} {v : Option Value} {b : Nat} {As : List Value} {C : String}
theorem fw_preV {ci q0 Nf : Nat} {fs : List Value} {T : u_T} (hX : Kx D cl tys s) (hw : fw_H D cl A s.heap w0 H locs) (he : w0[q0]? = some (b, .inr (ci, fs))) (hc : cl[ci]? = some (C, T, Nf)) : PreV s H C b (va_Pc (.ref b :: As) (fun U => U.heap.size = H.size ∧ va_P D cl w0 U.heap ∧ Kx D cl tys U ∧ va_D (fun _ => True) w0)) As := by
  have h := fw_pre (av := .ref b :: As) hX hw
  exact ⟨h.1, va_recv hX.1 hw.1 hc he, h.2⟩
theorem fw_callV (S : CallFix p m c cc nL s args Gw own) (hM : fw_C l y (Cond.code y bytes maxL ret :: Gw) rm D cl tys (.ref b :: As) w0 v w1)
    (q1 : Cond.methodLink own index y ∈ Gw) (q2 : Cond.instanceMethod y ∈ Gw) (q3 : Cond.selects C y y ∈ Gw) (q4 : Cond.initialized C ∈ Gw) (q5 : Cond.code y bytes maxL ret ∈ Gw)
    (hd : y.cls = C ∧ y.cls ≠ "java/lang/invoke/MethodHandle" ∧ y.cls ≠ "java/lang/invoke/VarHandle" ∧ (parseMethodDescriptor y.desc).map (fun d => d.parameters.length) = some n)
    (hR : rm.frames + 1 ≤ R.frames ∧ 8 + (maxL + 11) + rm.locals ≤ R.locals) (hrc : rm.cells = 0) (hrs : rm.slots = 0) (hX : Kx D cl tys s) (hw : fw_H D cl A s.heap w0 H locs) (hA : ∀ q : Nat, s.heap.size ≤ q → A q)
    (q0 : Nat) {ci Nf : Nat} {fs : List Value} {T : u_T} (he : w0[q0]? = some (b, .inr (ci, fs))) (hc : cl[ci]? = some (C, T, Nf)) (hsz : ls.size = nL) (hn : As.length = n) (hst : st0 = As.reverse ++ .ref b :: rest) (hrm : (rest.map fun v => v.category).sum ≤ 8) (hdg : decode cc pc = .ok (.invokevirtual index, 3)) (hf : cells ≤ R.cells ∧ slots ≤ R.slots) (h1 : v.toList ++ rest = st1)
    (kk : ∀ (H : Heap) (locs : List Loc), fw_H D cl A s.heap w1 H locs → W p l e R s m args below meth c H locs cells slots Q (F0 m (pc + 3) ls st1)) : W p l e R s m args below meth c H locs cells slots Q (F0 m pc ls st0) := by
  subst hst
  have hG : GoodIn Gw (wsV own index C y (Cond.code y bytes maxL ret :: Gw)) := gw_in (by intro w h; simp only [List.mem_cons, List.not_mem_nil, or_false] at h; rcases h with rfl | rfl | rfl | rfl <;> assumption) q5
  exact fw_go (va_runV S (hM H.size) (cwV n S.2.2.2.2 hG rfl hrc hrs hd hR) (fw_preV hX hw he hc) rfl hn hsz rfl (lv_room hrm) hdg hf) hw hA h1 kk
theorem fw_callS (S : CallFix p m c cc nL s args Gw own) (hM : fw_C l y (Cond.code y bytes maxL ret :: Gw) rm D cl tys As w0 v w1)
    (q1 : Cond.methodLink own index y ∈ Gw) (q2 : Cond.static y ∈ Gw) (q4 : Cond.initialized y.cls ∈ Gw) (q5 : Cond.code y bytes maxL ret ∈ Gw)
    (hd : y.cls = C ∧ y.cls ≠ "java/lang/invoke/MethodHandle" ∧ y.cls ≠ "java/lang/invoke/VarHandle" ∧ (parseMethodDescriptor y.desc).map (fun d => d.parameters.length) = some n)
    (hR : rm.frames + 1 ≤ R.frames ∧ 8 + (maxL + 11) + rm.locals ≤ R.locals) (hrc : rm.cells = 0) (hrs : rm.slots = 0) (hX : Kx D cl tys s) (hw : fw_H D cl A s.heap w0 H locs) (hA : ∀ q : Nat, s.heap.size ≤ q → A q)
    (hsz : ls.size = nL) (hn : As.length = n) (hst : st0 = As.reverse ++ rest) (hrm : (rest.map fun v => v.category).sum ≤ 8) (hdg : decode cc pc = .ok (.invokestatic index, 3)) (hf : cells ≤ R.cells ∧ slots ≤ R.slots) (h1 : v.toList ++ rest = st1)
    (kk : ∀ (H : Heap) (locs : List Loc), fw_H D cl A s.heap w1 H locs → W p l e R s m args below meth c H locs cells slots Q (F0 m (pc + 3) ls st1)) : W p l e R s m args below meth c H locs cells slots Q (F0 m pc ls st0) := by
  subst hst
  have hG : GoodIn Gw (va_wsS own index y (Cond.code y bytes maxL ret :: Gw)) := gw_in (by intro w h; simp only [List.mem_cons, List.not_mem_nil, or_false] at h; rcases h with rfl | rfl | rfl <;> assumption) q5
  exact fw_go (va_runS S (hM H.size) (va_cwS n S.2.2.2.2 hG rfl hrc hrs hd.2 hR) (fw_pre hX hw) rfl hn hsz rfl (lv_room hrm) hdg hf) hw hA h1 kk
theorem fw_callU (S : CallFix p m c cc nL s args Gw own) (hM : fw_C l y (Cond.code y bytes maxL ret :: Gw) rm D cl tys (.ref b :: As) w0 v w1)
    (q1 : Cond.methodLink own index x ∈ Gw) (q2 : Cond.sameMethod x.cls y.cls x.name x.desc ∈ Gw) (q3 : Cond.selects C x y ∈ Gw) (q6 : Cond.instanceMethod y ∈ Gw) (q4 : Cond.initialized y.cls ∈ Gw) (q5 : Cond.code y bytes maxL ret ∈ Gw)
    {C' : String} (hd : y.cls = C' ∧ y.cls ≠ "java/lang/invoke/MethodHandle" ∧ y.cls ≠ "java/lang/invoke/VarHandle" ∧ (parseMethodDescriptor x.desc).map (fun d => d.parameters.length) = some n) (hyx : y = ⟨y.cls, x.name, x.desc⟩)
    (hR : rm.frames + 1 ≤ R.frames ∧ 8 + (maxL + 11) + rm.locals ≤ R.locals) (hrc : rm.cells = 0) (hrs : rm.slots = 0) (hX : Kx D cl tys s) (hw : fw_H D cl A s.heap w0 H locs) (hA : ∀ q : Nat, s.heap.size ≤ q → A q)
    (q0 : Nat) {ci Nf : Nat} {fs : List Value} {T : u_T} (he : w0[q0]? = some (b, .inr (ci, fs))) (hc : cl[ci]? = some (C, T, Nf)) (hsz : ls.size = nL) (hn : As.length = n) (hst : st0 = As.reverse ++ .ref b :: rest) (hrm : (rest.map fun v => v.category).sum ≤ 8) (hdg : decode cc pc = .ok (.invokevirtual index, 3)) (hf : cells ≤ R.cells ∧ slots ≤ R.slots) (h1 : v.toList ++ rest = st1)
    (kk : ∀ (H : Heap) (locs : List Loc), fw_H D cl A s.heap w1 H locs → W p l e R s m args below meth c H locs cells slots Q (F0 m (pc + 3) ls st1)) : W p l e R s m args below meth c H locs cells slots Q (F0 m pc ls st0) := by
  subst hst
  have hG : GoodIn Gw (va_wsU own index C y.cls x y (Cond.code y bytes maxL ret :: Gw)) := gw_in (by intro w h; simp only [List.mem_cons, List.not_mem_nil, or_false] at h; rcases h with rfl | rfl | rfl | rfl | rfl <;> assumption) q5
  exact fw_go (va_runU S (hM H.size) (va_cwU n S.2.2.2.2 hG rfl hrc hrs hyx hd.2 hR) (fw_preV hX hw he hc) rfl hn hsz rfl (lv_room hrm) hdg hf) hw hA h1 kk
theorem fw_callA (S : CallFix p m c cc nL s args Gw own) (hM : fw_C l y (Cond.code y bytes maxL ret :: Gw) rm D cl tys (.ref b :: As) w0 v w1) (hz : Cond.declares ⟨x.cls, x.name, x.desc⟩ ∈ Nws)
    (q1 : Cond.methodLink own index x ∈ Gw) (q2 : Cond.sameMethod x.cls x.cls x.name x.desc ∈ Gw) (q3 : Cond.selects C x y ∈ Gw) (q6 : Cond.instanceMethod y ∈ Gw) (q4 : Cond.initialized y.cls ∈ Gw) (q5 : Cond.code y bytes maxL ret ∈ Gw)
    (hd : x.cls ≠ "java/lang/invoke/MethodHandle" ∧ x.cls ≠ "java/lang/invoke/VarHandle" ∧ (parseMethodDescriptor x.desc).map (fun d => d.parameters.length) = some n)
    (hR : rm.frames + 1 ≤ R.frames ∧ 8 + (maxL + 11) + rm.locals ≤ R.locals) (hrc : rm.cells = 0) (hrs : rm.slots = 0) (hX : Kx D cl tys s) (hw : fw_H D cl A s.heap w0 H locs) (hA : ∀ q : Nat, s.heap.size ≤ q → A q)
    (q0 : Nat) {ci Nf : Nat} {fs : List Value} {T : u_T} (he : w0[q0]? = some (b, .inr (ci, fs))) (hc : cl[ci]? = some (C, T, Nf)) (hsz : ls.size = nL) (hn : As.length = n) (hst : st0 = As.reverse ++ .ref b :: rest) (hrm : (rest.map fun v => v.category).sum ≤ 8) (hdg : decode cc pc = .ok (.invokevirtual index, 3)) (hf : cells ≤ R.cells ∧ slots ≤ R.slots) (h1 : v.toList ++ rest = st1)
    (kk : ∀ (H : Heap) (locs : List Loc), fw_H D cl A s.heap w1 H locs → W p l e R s m args below meth c H locs cells slots Q (F0 m (pc + 3) ls st1)) : W p l e R s m args below meth c H locs cells slots Q (F0 m pc ls st0) := by
  subst hst
  have hG : GoodIn Gw (va_wsU own index C x.cls x y (Cond.code y bytes maxL ret :: Gw)) := gw_in (by intro w h; simp only [List.mem_cons, List.not_mem_nil, or_false] at h; rcases h with rfl | rfl | rfl | rfl | rfl <;> assumption) q5
  exact fw_go (va_runU S (hM H.size) (va_cwA n S.2.2.2.2 hG rfl hrc hrs (hX.2 _ hz) hd hR) (fw_preV hX hw he hc) rfl hn hsz rfl (lv_room hrm) hdg hf) hw hA h1 kk
theorem fw_mabs {a : Int32} (S : CallFix p m c cc nL s args Gw own) (hsz : ls.size = nL) (q1 : Cond.methodLink own index Lib.Math.abs.name ∈ Gw ∧ Cond.static Lib.Math.abs.name ∈ Gw ∧ Cond.initialized "java/lang/Math" ∈ Gw ∧ Cond.code Lib.Math.abs.name Lib.Math.abs.code 1 (some .int) ∈ Gw)
    (hf : 1 ≤ R.frames) (hlo : (rest.map fun v => v.category).sum + 13 ≤ R.locals) (hdg : decode cc pc = .ok (.invokestatic index, 3)) (h0 : cells ≤ R.cells ∧ slots ≤ R.slots)
    (kk : W p l e R s m args below meth c H locs cells slots Q (F0 m (pc + 3) ls (.int (if 0 ≤ a then a else 0 - a) :: rest))) : W p l e R s m args below meth c H locs cells slots Q (F0 m pc ls (.int a :: rest)) :=
  va_mabs S.1 S.2.1 (S.2.2.1.trans hsz.symm) S.2.2.2.1 (S.2.2.2.2 _ q1.1) (S.2.2.2.2 _ q1.2.1) (S.2.2.2.2 _ q1.2.2.1) (S.2.2.2.2 _ q1.2.2.2) hf hlo h0.1 h0.2 hdg kk
theorem fw_callK {k : Nat} {ad : Nat → Nat} {f1 f2 f3 : List Value} (S : CallFix p m c cc nL s args Gw own) (hM : fw_C l y (Cond.code y bytes maxL ret :: Gw) rm D vwCl tys (.ref (ad k) :: As) w0 v w1) (hk : K3 k)
    (q1 : Cond.methodLink own index x ∈ Gw) (q2 : Cond.sameMethod x.cls y.cls x.name x.desc ∈ Gw) (q31 : Cond.selects R_PI x y ∈ Gw) (q32 : Cond.selects R_SQ x y ∈ Gw) (q33 : Cond.selects R_ST x y ∈ Gw) (q6 : Cond.instanceMethod y ∈ Gw) (q4 : Cond.initialized y.cls ∈ Gw) (q5 : Cond.code y bytes maxL ret ∈ Gw)
    {C' : String} (hd : y.cls = C' ∧ y.cls ≠ "java/lang/invoke/MethodHandle" ∧ y.cls ≠ "java/lang/invoke/VarHandle" ∧ (parseMethodDescriptor x.desc).map (fun d => d.parameters.length) = some n) (hyx : y = ⟨y.cls, x.name, x.desc⟩)
    (hR : rm.frames + 1 ≤ R.frames ∧ 8 + (maxL + 11) + rm.locals ≤ R.locals) (hrc : rm.cells = 0) (hrs : rm.slots = 0) (hX : Kx D vwCl tys s) (hw : fw_H D vwCl A s.heap w0 H locs) (hA : ∀ q : Nat, s.heap.size ≤ q → A q)
    (e1 : w0[1]? = some (ad 1, .inr (1, f1))) (e2 : w0[2]? = some (ad 2, .inr (2, f2))) (e3 : w0[3]? = some (ad 3, .inr (3, f3))) (hsz : ls.size = nL) (hn : As.length = n) (hst : st0 = As.reverse ++ .ref (ad k) :: rest) (hrm : (rest.map fun v => v.category).sum ≤ 8) (hdg : decode cc pc = .ok (.invokevirtual index, 3)) (hf : cells ≤ R.cells ∧ slots ≤ R.slots) (h1 : v.toList ++ rest = st1)
    (kk : ∀ (H : Heap) (locs : List Loc), fw_H D vwCl A s.heap w1 H locs → W p l e R s m args below meth c H locs cells slots Q (F0 m (pc + 3) ls st1)) : W p l e R s m args below meth c H locs cells slots Q (F0 m pc ls st0) := by
  rcases hk with rfl | rfl | rfl
  · exact fw_callU (C := R_PI) S hM q1 q2 q31 q6 q4 q5 hd hyx hR hrc hrs hX hw hA 1 e1 (rfl : vwCl[1]? = some (R_PI, F_PI, 8)) hsz hn hst hrm hdg hf h1 kk
  · exact fw_callU (C := R_SQ) S hM q1 q2 q32 q6 q4 q5 hd hyx hR hrc hrs hX hw hA 2 e2 (rfl : vwCl[2]? = some (R_SQ, F_SQ, 8)) hsz hn hst hrm hdg hf h1 kk
  · exact fw_callU (C := R_ST) S hM q1 q2 q33 q6 q4 q5 hd hyx hR hrc hrs hX hw hA 3 e3 (rfl : vwCl[3]? = some (R_ST, F_ST, 6)) hsz hn hst hrm hdg hf h1 kk
end FC
section FK
variable {p : Program} {l : Launch} {e : Env} {R : Room} {s : State} {m : MethodId} {args : Array Value} {below : List Frame} {meth : Method} {c : Code} {H : Heap} {locs : List Loc} {cells slots : Nat} {Q : State → Prop}
variable {cc : ByteArray} {pc nL : Nat} {ls : Array Slot} {rest : List Value} {D : va_G} {A : Nat → Prop} {tys : List (ClassId × FieldType)} {own : String} {index k : Nat} {ad : Nat → Nat} {cI cL : ClassId} {kk : Nat} {kn : Int32} {le : Int64} {ff : Int64} {fo : Int32} {ct : Int32} {fx : Int32} {gv : Nat → Int32} {pg : Nat → Int32} {cu : Nat → Int32} {co : Nat → Int32} {sg : Nat → Int32} {ru : Nat → Int32} {nu : Nat → Int32} {tg : Nat → Int32} {sc : Nat → Int64} {sr : Nat → Int32} {wy : Nat → Int64}
theorem fk_side (S : CallFix p m c cc nL s args Gw own) (hK : va_K D vwCl tys s) (hw : fw_H D vwCl A s.heap (wC ad cI cL kk kn le ff fo ct fx gv pg cu co sg ru nu tg sc sr wy) H locs) (hk : K3 k) (hln : (Cond.fieldLink own index "PuzzlePress$Kind" "side" "I").before args s = true) (hdg : decode cc pc = .ok (.getfield index, 3)) (kk1 : W p l e R s m args below meth c H locs cells slots Q (F0 m (pc + 3) ls (.int (k_side k) :: rest))) : W p l e R s m args below meth c H locs cells slots Q (F0 m pc ls (.ref (ad k) :: rest)) := by
  rcases hk with rfl | rfl | rfl
  · exact va_get (ci := 1) (v := .int 5) (C := R_PI) (T := F_PI) (N := 8) S.1 S.2.1 S.2.2.2.2 in_PI S.2.2.2.1 hK hw.1 1 rfl rfl 0 (by decide) hln (fun _ h9 => h9) rfl hdg kk1
  · exact va_get (ci := 2) (v := .int 4) (C := R_SQ) (T := F_SQ) (N := 8) S.1 S.2.1 S.2.2.2.2 in_SQ S.2.2.2.1 hK hw.1 2 rfl rfl 0 (by decide) hln (fun _ h9 => h9) rfl hdg kk1
  · exact va_get (ci := 3) (v := .int 5) (C := R_ST) (T := F_ST) (N := 6) S.1 S.2.1 S.2.2.2.2 in_ST S.2.2.2.1 hK hw.1 3 rfl rfl 0 (by decide) hln (fun _ h9 => h9) rfl hdg kk1
theorem fk_cells (S : CallFix p m c cc nL s args Gw own) (hK : va_K D vwCl tys s) (hw : fw_H D vwCl A s.heap (wC ad cI cL kk kn le ff fo ct fx gv pg cu co sg ru nu tg sc sr wy) H locs) (hk : K3 k) (hln : (Cond.fieldLink own index "PuzzlePress$Kind" "cells" "I").before args s = true) (hdg : decode cc pc = .ok (.getfield index, 3)) (kk1 : W p l e R s m args below meth c H locs cells slots Q (F0 m (pc + 3) ls (.int (k_cells k) :: rest))) : W p l e R s m args below meth c H locs cells slots Q (F0 m pc ls (.ref (ad k) :: rest)) := by
  rcases hk with rfl | rfl | rfl
  · exact va_get (ci := 1) (v := .int 25) (C := R_PI) (T := F_PI) (N := 8) S.1 S.2.1 S.2.2.2.2 in_PI S.2.2.2.1 hK hw.1 1 rfl rfl 1 (by decide) hln (fun _ h9 => h9) rfl hdg kk1
  · exact va_get (ci := 2) (v := .int 16) (C := R_SQ) (T := F_SQ) (N := 8) S.1 S.2.1 S.2.2.2.2 in_SQ S.2.2.2.1 hK hw.1 2 rfl rfl 1 (by decide) hln (fun _ h9 => h9) rfl hdg kk1
  · exact va_get (ci := 3) (v := .int 25) (C := R_ST) (T := F_ST) (N := 6) S.1 S.2.1 S.2.2.2.2 in_ST S.2.2.2.1 hK hw.1 3 rfl rfl 1 (by decide) hln (fun _ h9 => h9) rfl hdg kk1
theorem fk_least (S : CallFix p m c cc nL s args Gw own) (hK : va_K D vwCl tys s) (hw : fw_H D vwCl A s.heap (wC ad cI cL kk kn le ff fo ct fx gv pg cu co sg ru nu tg sc sr wy) H locs) (hk : K3 k) (hln : (Cond.fieldLink own index "PuzzlePress$Kind" "least" "I").before args s = true) (hdg : decode cc pc = .ok (.getfield index, 3)) (kk1 : W p l e R s m args below meth c H locs cells slots Q (F0 m (pc + 3) ls (.int (k_least k) :: rest))) : W p l e R s m args below meth c H locs cells slots Q (F0 m pc ls (.ref (ad k) :: rest)) := by
  rcases hk with rfl | rfl | rfl
  · exact va_get (ci := 1) (v := .int 0) (C := R_PI) (T := F_PI) (N := 8) S.1 S.2.1 S.2.2.2.2 in_PI S.2.2.2.1 hK hw.1 1 rfl rfl 2 (by decide) hln (fun _ h9 => h9) rfl hdg kk1
  · exact va_get (ci := 2) (v := .int 1) (C := R_SQ) (T := F_SQ) (N := 8) S.1 S.2.1 S.2.2.2.2 in_SQ S.2.2.2.1 hK hw.1 2 rfl rfl 2 (by decide) hln (fun _ h9 => h9) rfl hdg kk1
  · exact va_get (ci := 3) (v := .int 0) (C := R_ST) (T := F_ST) (N := 6) S.1 S.2.1 S.2.2.2.2 in_ST S.2.2.2.1 hK hw.1 3 rfl rfl 2 (by decide) hln (fun _ h9 => h9) rfl hdg kk1
theorem fk_values (S : CallFix p m c cc nL s args Gw own) (hK : va_K D vwCl tys s) (hw : fw_H D vwCl A s.heap (wC ad cI cL kk kn le ff fo ct fx gv pg cu co sg ru nu tg sc sr wy) H locs) (hk : K3 k) (hln : (Cond.fieldLink own index "PuzzlePress$Kind" "values" "I").before args s = true) (hdg : decode cc pc = .ok (.getfield index, 3)) (kk1 : W p l e R s m args below meth c H locs cells slots Q (F0 m (pc + 3) ls (.int (k_values k) :: rest))) : W p l e R s m args below meth c H locs cells slots Q (F0 m pc ls (.ref (ad k) :: rest)) := by
  rcases hk with rfl | rfl | rfl
  · exact va_get (ci := 1) (v := .int 2) (C := R_PI) (T := F_PI) (N := 8) S.1 S.2.1 S.2.2.2.2 in_PI S.2.2.2.1 hK hw.1 1 rfl rfl 3 (by decide) hln (fun _ h9 => h9) rfl hdg kk1
  · exact va_get (ci := 2) (v := .int 4) (C := R_SQ) (T := F_SQ) (N := 8) S.1 S.2.1 S.2.2.2.2 in_SQ S.2.2.2.1 hK hw.1 2 rfl rfl 3 (by decide) hln (fun _ h9 => h9) rfl hdg kk1
  · exact va_get (ci := 3) (v := .int 2) (C := R_ST) (T := F_ST) (N := 6) S.1 S.2.1 S.2.2.2.2 in_ST S.2.2.2.1 hK hw.1 3 rfl rfl 3 (by decide) hln (fun _ h9 => h9) rfl hdg kk1
theorem fk_groups (S : CallFix p m c cc nL s args Gw own) (hK : va_K D vwCl tys s) (hw : fw_H D vwCl A s.heap (wC ad cI cL kk kn le ff fo ct fx gv pg cu co sg ru nu tg sc sr wy) H locs) (hk : K3 k) (hln : (Cond.fieldLink own index "PuzzlePress$Kind" "groups" "I").before args s = true) (hdg : decode cc pc = .ok (.getfield index, 3)) (kk1 : W p l e R s m args below meth c H locs cells slots Q (F0 m (pc + 3) ls (.int (k_groups k) :: rest))) : W p l e R s m args below meth c H locs cells slots Q (F0 m pc ls (.ref (ad k) :: rest)) := by
  rcases hk with rfl | rfl | rfl
  · exact va_get (ci := 1) (v := .int 0) (C := R_PI) (T := F_PI) (N := 8) S.1 S.2.1 S.2.2.2.2 in_PI S.2.2.2.1 hK hw.1 1 rfl rfl 4 (by decide) hln (fun _ h9 => h9) rfl hdg kk1
  · exact va_get (ci := 2) (v := .int 16) (C := R_SQ) (T := F_SQ) (N := 8) S.1 S.2.1 S.2.2.2.2 in_SQ S.2.2.2.1 hK hw.1 2 rfl rfl 4 (by decide) hln (fun _ h9 => h9) rfl hdg kk1
  · exact va_get (ci := 3) (v := .int 5) (C := R_ST) (T := F_ST) (N := 6) S.1 S.2.1 S.2.2.2.2 in_ST S.2.2.2.1 hK hw.1 3 rfl rfl 4 (by decide) hln (fun _ h9 => h9) rfl hdg kk1
end FK
