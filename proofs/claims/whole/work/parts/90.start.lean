/-! THE CLAIM OUT OF ONE WALK OF THE LAW'S BODY (begun from the kit's skeleton) -/
def R_law : String := "VotedMapLaw"
def lw_P (b : Addr) (xs : List Int32) (args : Array Value) (s : State) : Prop := args = #[.ref b] ∧ s.IntsAt b xs ∧ xs.length ≤ 384 ∧ (Jvm.Cond.and given_1 narrow_1).before args s = true
def lw_Q (_ : Array Value) (s : State) (o : Outcome) (t : State) : Prop := o = .returned (some (.int 1)) ∧ Framed s o t [] 600000 7302250
def lw_Z (below : List Frame) (a : Array Value) (s : State) : State → Prop := fun t => ∃ o, t.status = .running ∧ Ended t below o ∧ lw_Q a s o t
/-- the law's own end, with 1 on the stack, nothing written that was there before, its room as the claim has it -/
theorem lw_ret {p : Program} {l : Launch} {e : Env} {s : State} {m : MethodId} {below : List Frame} {meth : Method} {c : Code} {b : Nat} (hx : p.tables.exec = Jvm.exec) (hb : c.code = code) (hr : meth.sig.returnType = ret) (hlocks : meth.locks = false) {pc : Nat} {H : Heap} {ls : Array Slot} (hdg : decode code pc = .ok (.ireturn, 1)) : W p l e room_1 s m #[Value.ref b] below meth c H [] 600000 7302250 (lw_Z below #[Value.ref b] s) (F0 m pc ls [.int 1]) := by
  intro T hT X
  obtain ⟨fs, hret, hrun, hended, hW, hframe⟩ := X.leave (v := some (.int 1)) (hlocks := hlocks) (fun h => by rw [hr] at h; cases h)
  have hmeth' : T.vm.method? m = some meth := X.method'
  refine ⟨T.setFrames fs, ?_, .returned (some (.int 1)), hrun, hended, rfl, ⟨_, rfl⟩, hW, hframe⟩
  jvm_step X.here [X.here.top, hx, hb, hdg, hmeth', hr, ret, narrow_b1]
  (try refine ⟨rfl, ?_⟩); (try refine ⟨rfl, ?_⟩)
  first | (intro acts; rw [hret _ acts rfl rfl rfl]) | rw [hret _ _ rfl rfl rfl]
  exact Steps.refl _
/-- what holds at the law's entry: the machine, the code, the tables' words (any of lw_tbl by 'hts w (by decide +kernel)'), the script of L ints xs at the cell b, what the Statement gives of the start (any of its parts by flat_of_before) -/
def lw_At (p : Program) (s : State) (m : MethodId) (meth : Method) (c : Code) (b L : Nat) (xs : Nat → Int32) : Prop :=
  p.tables.exec = Jvm.exec ∧ c.code = code ∧ meth.sig.returnType = ret ∧ c.maxLocals = 4 ∧ s.vm.findClass R_law = some m.cls ∧ (∀ w ∈ lw_tbl, w.before #[Value.ref b] s = true) ∧ va_X b L xs s s.heap ∧ b < s.heap.size ∧ meth.locks = false ∧ (Jvm.Cond.and given_1 narrow_1).before #[Value.ref b] s = true
theorem mk_inst {c : Nat} (hc : c < 8) : Jvm.Cond.instantiable (tm_cn c) (tm_N c) ∈ tm_tbl := by
  rcases (by omega : c = 0 ∨ c = 1 ∨ c = 2 ∨ c = 3 ∨ c = 4 ∨ c = 5 ∨ c = 6 ∨ c = 7) with rfl | rfl | rfl | rfl | rfl | rfl | rfl | rfl
  · exact tm_tables_in (i := 151) (by decide +kernel) rfl
  · exact tm_tables_in (i := 53) (by decide +kernel) rfl
  · exact tm_tables_in (i := 230) (by decide +kernel) rfl
  · exact tm_tables_in (i := 177) (by decide +kernel) rfl
  · exact tm_tables_in (i := 24) (by decide +kernel) rfl
  · exact tm_tables_in (i := 216) (by decide +kernel) rfl
  · exact tm_tables_in (i := 14) (by decide +kernel) rfl
  · exact tm_tables_in (i := 731) (by decide +kernel) rfl
/-- what the tables give at the start: classes, arrays, what the class's maker needs -/
theorem mk_known {args : Array Value} {s : State} (hts : ∀ w ∈ lw_tbl, w.before args s = true) : ∃ (D : va_G) (cT : Nat → ClassId), va_K D tm_cl (tm_tys cT) s := by
  have hTs : ∀ w ∈ tm_tbl, w ∈ lw_tbl := fun w hw => (List.mem_filter.mp hw).1
  have hk : ∀ c, ∃ x : ClassId × (Nat → Nat), c < 8 → u_Kn s (tm_cn c) (tm_T c) (tm_N c) x.1 x.2 := by
    intro c
    have k : ∀ c, c < 8 → ∃ x : ClassId × (Nat → Nat), u_Kn s (tm_cn c) (tm_T c) (tm_N c) x.1 x.2 := fun c hc => by
      obtain ⟨cC, iS, h⟩ := u_known hts (fun w hw => hTs w (tm_lys_in hc w hw)) (hts _ (hTs _ (mk_inst hc)))
      exact ⟨(cC, iS), h⟩
    by_cases hc : c < 8
    · obtain ⟨x, h⟩ := k c hc
      exact ⟨x, fun _ => h⟩
    · obtain ⟨x, -⟩ := k 0 (by decide)
      exact ⟨x, fun z => absurd z hc⟩
  obtain ⟨f, hf⟩ := Classical.axiomOfChoice hk
  obtain ⟨i0, k0, p0, a0, b0, d0⟩ := Cond.arrayClass_spec (hts (.arrayClass .int) (List.mem_append_right _ (List.mem_of_getElem? (i := 51) (by decide +kernel))))
  obtain ⟨i1, k1, p1, a1, b1, d1⟩ := Cond.arrayClass_spec (hts (.arrayClass .boolean) (List.mem_append_right _ (List.mem_of_getElem? (i := 812) (by decide +kernel))))
  obtain ⟨i2, k2, p2, a2, b2, d2⟩ := Cond.arrayClass_spec (hts (.arrayClass .byte) (List.mem_append_right _ (List.mem_of_getElem? (i := 813) (by decide +kernel))))
  obtain ⟨p3, i3, k3, g3, h3, b3, d3, a3⟩ := Cond.arrayOver_spec (hts (.arrayOver (.object "VotedMap$Row")) (List.mem_append_right _ (List.mem_of_getElem? (i := 22) (by decide +kernel))))
  obtain ⟨p4, i4, k4, g4, h4, b4, d4, a4⟩ := Cond.arrayOver_spec (hts (.arrayOver (.object "VotedMap$City")) (List.mem_append_right _ (List.mem_of_getElem? (i := 149) (by decide +kernel))))
  refine ⟨(fun c => (f c).1, fun c => (f c).2), fun k => match k with | 0 => i0 | 1 => i1 | 2 => i2 | 3 => i3 | _ => i4, fun c q hq => ?_, fun k q hq => ?_⟩
  · have hc : c < 8 := (List.getElem?_eq_some_iff.mp hq).1
    have e := Option.some.inj ((tm_cls hc).symm.trans hq)
    subst e
    exact hf c hc
  · have hk5 : k < 5 := (List.getElem?_eq_some_iff.mp hq).1
    rcases (by omega : k = 0 ∨ k = 1 ∨ k = 2 ∨ k = 3 ∨ k = 4) with rfl | rfl | rfl | rfl | rfl
    · cases hq
      exact ⟨fun n z => ⟨fun k h => (by cases h), k0, b0, p0, d0⟩, a0⟩
    · cases hq
      exact ⟨fun n z => ⟨fun k h => (by cases h), k1, b1, p1, d1⟩, a1⟩
    · cases hq
      exact ⟨fun n z => ⟨fun k h => (by cases h), k2, b2, p2, d2⟩, a2⟩
    · cases hq
      exact ⟨fun n z => ⟨fun k h => (by cases h), k3, b3, p3, d3⟩, k3, p3, b3, d3, g3, a3⟩
    · cases hq
      exact ⟨fun n z => ⟨fun k h => (by cases h), k4, b4, p4, d4⟩, k4, p4, b4, d4, g4, a4⟩
theorem mk_X_of {args : Array Value} {s : State} (hts : ∀ w ∈ lw_tbl, w.before args s = true) : mk_X s := ⟨va_AO.of (hts _ (List.mem_append_right _ (List.mem_of_getElem? (i := 22) (by decide +kernel)))), va_AO.of (hts _ (List.mem_append_right _ (List.mem_of_getElem? (i := 149) (by decide +kernel)))), va_Nw.of rfl (hts _ (List.mem_append_right _ (List.mem_of_getElem? (i := 25) (by decide +kernel)))), va_Nw.of rfl (hts _ (List.mem_append_right _ (List.mem_of_getElem? (i := 54) (by decide +kernel)))), va_Nw.of rfl (hts _ (List.mem_append_right _ (List.mem_of_getElem? (i := 152) (by decide +kernel)))), va_Nw.of rfl (hts _ (List.mem_append_right _ (List.mem_of_getElem? (i := 178) (by decide +kernel)))), va_Nw.of rfl (hts _ (List.mem_append_right _ (List.mem_of_getElem? (i := 217) (by decide +kernel)))), va_Nw.of rfl (hts _ (List.mem_append_right _ (List.mem_of_getElem? (i := 231) (by decide +kernel)))), va_Nw.of rfl (hts _ (List.mem_append_right _ (List.mem_of_getElem? (i := 183) (by decide +kernel))))⟩
theorem mk_X_same (U V : State) (h : U.vm = V.vm) (z : mk_X U) : mk_X V := by
  obtain ⟨z0, z1, z2, z3, z4, z5, z6, z7, z8⟩ := z
  have hA : U.vm.Alike V.vm := by rw [h]; exact Vm.Alike.refl _
  exact ⟨va_AO.moved hA z0, va_AO.moved hA z1, va_Nw.same rfl h z2, va_Nw.same rfl h z3, va_Nw.same rfl h z4, va_Nw.same rfl h z5, va_Nw.same rfl h z6, va_Nw.same rfl h z7, va_Nw.same rfl h z8⟩
theorem mk_X_warm {s U : State} (hW : s.WarmedH U.vm) (z : mk_X s) : mk_X U := by
  obtain ⟨z0, z1, z2, z3, z4, z5, z6, z7, z8⟩ := z
  exact ⟨va_AO.moved hW.alike z0, va_AO.moved hW.alike z1, va_Nw.warmM hW z2, va_Nw.warmM hW z3, va_Nw.warmM hW z4, va_Nw.warmM hW z5, va_Nw.warmM hW z6, va_Nw.warmM hW z7, va_Nw.warmM hW z8⟩
