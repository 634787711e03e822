/-! What the tables of this statement say of PuzzlePress$Kind.firstOf: row 230 that it is an instance method ('declares'), row 231 that it is static. Both cannot be: no start meets the tables. -/
def te_y : MethodName := ⟨"PuzzlePress$Kind", "firstOf", "(I)I"⟩
theorem te_in1 : Cond.declares te_y ∈ tables_1 := List.mem_of_getElem? (i := 230) (by decide +kernel)
theorem te_in2 : Cond.static te_y ∈ tables_1 := List.mem_of_getElem? (i := 231) (by decide +kernel)
/-- the two words contradict each other, in every state -/
theorem te_both {args : Array Value} {s : State} (h1 : (Cond.declares te_y).before args s = true) (h2 : (Cond.static te_y).before args s = true) : False := by
  obtain ⟨mk, meth, hn, hm, hst, -⟩ := Cond.declares_spec h1
  have h := Cond.static_spec hn hm h2
  rw [hst] at h
  cases h
/-- so no state meets the words of tables_1 -/
theorem te_none {args : Array Value} {s : State} (h : ∀ w ∈ tables_1, w.before args s = true) : False := te_both (h _ te_in1) (h _ te_in2)
/-- and the launch's own class files deny the first of them: that is where the printed witness falls -/
theorem te_says : launch0.says (.declares te_y) = false := by decide +kernel
theorem te_others : ((List.range 16).map fun i => (([165, 181, 191, 201, 230, 241, 247, 288, 303, 331, 489, 490, 491, 492, 493, 494] : List Nat).getD i 0)).map (fun k => (tables_1[k]?.map fun c => c.shapes.all launch0.says).getD false) = [true, true, true, true, false, true, true, true, true, true, true, true, true, true, true, true] := by decide +kernel
