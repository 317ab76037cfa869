/-! makers: what a new object is; arrays of numbers; an object made by its maker -/
def mk_dv (c : Nat) : List Value := (List.range (tm_N c)).map (fun k => defaultValue (tm_t c k))
theorem mk_dv_ok {c : Nat} : ∀ j, j < tm_N c → defaultValue (tm_t c j) = vp_V (mk_dv c) j := by
  intro j hj
  unfold vp_V mk_dv
  rw [List.getD_eq_getElem?_getD, List.getElem?_map, List.getElem?_range hj]
  rfl
def mk_ws (y : MethodName) (b : ByteArray) (maxL : Nat) : List Jvm.Cond := .code y b maxL none :: tm_tbl
theorem mk_good {Ts : List Jvm.Cond} (hTs : ∀ w ∈ tm_tbl, w ∈ Ts) {y : MethodName} {b : ByteArray} {maxL : Nat} (h : Jvm.Cond.code y b maxL none ∈ tm_tbl) : GoodIn Ts (mk_ws y b maxL) := by
  intro w hw
  rcases List.mem_cons.mp hw with rfl | hw
  · exact tm_good hTs _ h
  · exact tm_good hTs _ hw
theorem va_D1 {A : Nat → Prop} {a : Nat} {e : va_E} (h : A a) : va_D A [(a, e)] := by
  have key : ∀ (k : Nat) (q : Nat × va_E), [(a, e)][k]? = some q → k = 0 ∧ q = (a, e) := by
    intro k q hk
    have hl := (List.getElem?_eq_some_iff.mp hk).1
    have h0 : k = 0 := by
      simp only [List.length_cons, List.length_nil] at hl
      omega
    subst h0
    cases hk
    exact ⟨rfl, rfl⟩
  exact ⟨fun i j p q hi hj _ => (key i p hi).1.trans (key j q hj).1.symm, fun k q hk => by rw [(key k q hk).2]; exact h⟩
theorem nd_of : ∀ l : List Nat, l.Nodup → va_nd l = true
  | [], _ => rfl
  | a :: l, h => by
    obtain ⟨h1, h2⟩ := List.nodup_cons.mp h
    show (decide (a ∉ l) && va_nd l) = true
    rw [nd_of l h2, decide_eq_true h1]
    rfl
theorem ws_rest {ws : va_W} {x : Nat × va_E} : (List.range ws.length).map (fun i => (ws ++ [x])[i]?) = ws.map some := by
  apply List.ext_getElem?
  intro i
  rw [List.getElem?_map, List.getElem?_map]
  by_cases h : i < ws.length
  · rw [List.getElem?_range h, Option.map_some, List.getElem?_append_left h, List.getElem?_eq_getElem h]
    rfl
  · rw [List.getElem?_eq_none (by rw [List.length_range]; omega), List.getElem?_eq_none (by omega)]
    rfl
theorem ra_int {U : State} {cA cB : ClassId} (h1 : va_RA U cA .int) (h2 : va_RA U cB .int) : cA = cB := Option.some.inj (Eq.trans (Eq.symm h1) h2)
theorem ra_bool {U : State} {cA cB : ClassId} (h1 : va_RA U cA .boolean) (h2 : va_RA U cB .boolean) : cA = cB := Option.some.inj (Eq.trans (Eq.symm h1) h2)
theorem ra_byte {U : State} {cA cB : ClassId} (h1 : va_RA U cA .byte) (h2 : va_RA U cB .byte) : cA = cB := Option.some.inj (Eq.trans (Eq.symm h1) h2)
theorem ra_obj {U : State} {cA cB : ClassId} {C : String} (h1 : va_RA U cA (.object C)) (h2 : va_RA U cB (.object C)) : cA = cB := by
  obtain ⟨_, _, _, _, _, a⟩ := h1
  obtain ⟨_, _, _, _, _, b⟩ := h2
  exact Option.some.inj (a.symm.trans b)
section
variable {p : Program} {l : Launch} {e : Env} {R : Room} {s : State} {m : MethodId} {args : Array Value} {below : List Frame} {meth : Method} {c : Code} {H : Heap} {locs : List Loc} {cells slots : Nat} {Q : State → Prop}
variable {cc : ByteArray} {pc : Nat} {ls : Array Slot} {rest : List Value} {D : va_G} {A : Nat → Prop} {ws : va_W} {H0 : Heap} {cT : Nat → ClassId}
/-- an array of numbers of a class that is known -/
theorem mk_newa (hexec : p.tables.exec = Jvm.exec) (hb : c.code = cc) {atype : ArrayType} (harr : (Cond.arrayClass (newarray.typeOf atype)).before args s = true) {ty : FieldType} (hty : newarray.typeOf atype = ty) (hpr : ∀ {U : State} {cA cB : ClassId}, va_RA U cA ty → va_RA U cB ty → cA = cB) (hK : va_K D tm_cl (tm_tys cT) s) (hP : va_P D tm_cl ws H) (hD : va_D A ws) (hS : va_S A H0 H locs) (hA : ∀ q, H0.size ≤ q → A q)
    (t0 : Nat) {cI : ClassId} (ht : (tm_tys cT)[t0]? = some (cI, ty)) {n : Int32} {N' : Nat} {a0 : vp_A} (ha : ∀ cA : ClassId, vp_cell cA a0 = arrV cA N' (fun _ => defaultValue ty)) (hn : ¬ n < 0) (hN : n.toNatClampNeg = N') (hbytes : N' * componentBytes ty ≤ 536870912) (hcells : cells + 1 ≤ R.cells) (hslots : slots + N' ≤ R.slots) (hdg : decode cc pc = .ok (.newarray atype, 2))
    (kk : ∀ (q : Nat) (H1 : Heap), va_P D tm_cl (ws ++ [(q, .inl (cI, a0))]) H1 → va_D A (ws ++ [(q, .inl (cI, a0))]) → va_S A H0 H1 locs →
      W p l e R s m args below meth c H1 locs (cells + 1) (slots + N') Q (F0 m (pc + 2) ls (.ref q :: rest))) : W p l e R s m args below meth c H locs cells slots Q (F0 m pc ls (.int n :: rest)) := by
  refine va_newa hexec hb harr hty hK hP hD hS hA ha hn hN hbytes hcells hslots hdg (fun q cA H1 hK1 hP1 hD1 hS1 => ?_)
  have e1 : (tm_tys cT ++ [(cA, ty)])[5]? = some (cA, ty) := rfl
  have e2 : cA = cI := hpr (hK1.2 5 _ e1).2 (hK.2 t0 _ ht).2
  subst e2
  exact kk q H1 hP1 hD1 hS1
/-- an array of objects of a class that is known -/
theorem mk_newq (hexec : p.tables.exec = Jvm.exec) (hb : c.code = cc) {own C : String} {index : Nat} (hown : s.vm.findClass own = some m.cls) (hclink : (Cond.classLink own index C).before args s = true) (hover : va_AO C s) (hK : va_K D tm_cl (tm_tys cT) s) (hP : va_P D tm_cl ws H) (hD : va_D A ws) (hS : va_S A H0 H locs) (hA : ∀ q, H0.size ≤ q → A q)
    (t0 : Nat) {cI : ClassId} (ht : (tm_tys cT)[t0]? = some (cI, .object C)) {n : Int32} {N' : Nat} (hn : ¬ n < 0) (hN : n.toNatClampNeg = N') (hbytes : N' * 4 ≤ 536870912) (hcells : cells + 1 ≤ R.cells) (hslots : slots + N' ≤ R.slots) (hdg : decode cc pc = .ok (.anewarray index, 3))
    (kk : ∀ (q : Nat) (H1 : Heap), va_P D tm_cl (ws ++ [(q, .inl (cI, N', .inr (.inr (.inr (.inr (fun _ => none))))))]) H1 → va_D A (ws ++ [(q, .inl (cI, N', .inr (.inr (.inr (.inr (fun _ => none))))))]) → va_S A H0 H1 locs →
      W p l e R s m args below meth c H1 locs (cells + 1) (slots + N') Q (F0 m (pc + 3) ls (.ref q :: rest))) : W p l e R s m args below meth c H locs cells slots Q (F0 m pc ls (.int n :: rest)) := by
  refine va_newq hexec hb hown hclink hover hK hP hD hS hA hn hN hbytes hcells hslots hdg (fun q cA H1 hK1 hP1 hD1 hS1 => ?_)
  have e1 : (tm_tys cT ++ [(cA, .object C)])[5]? = some (cA, .object C) := rfl
  have e2 : cA = cI := ra_obj (hK1.2 5 _ e1).2 (hK.2 t0 _ ht).2
  subst e2
  exact kk q H1 hP1 hD1 hS1
/-- new, dup, the maker's call: what was there, and what it made -/
theorem mk_obj {S : Type} {post : S → Prop} {w1 : Nat → S → va_W} {own : String} {ci idx mc ms : Nat} {Ts : List Jvm.Cond} (hexec : p.tables.exec = Jvm.exec) (hb : c.code = cc) (hown : s.vm.findClass own = some m.cls) (hts : ∀ w ∈ Ts, w.before args s = true) (hTs : ∀ w ∈ tm_tbl, w ∈ Ts) (hc : ci < 8)
    (hcl : (Cond.classLink own idx (tm_cn ci)).before args s = true) (hinst : (Cond.instantiable (tm_cn ci) (tm_N ci)).before args s = true) (hini : (Cond.initialized (tm_cn ci)).before args s = true) (hK : va_K D tm_cl (tm_tys cT) s) (hP : va_P D tm_cl ws H) (hD : va_D A ws) (hS : va_S A H0 H locs) (hA : ∀ q, H0.size ≤ q → A q)
    (hcells : cells + 1 + mc ≤ R.cells) (hslots : slots + tm_N ci + ms ≤ R.slots) (hd0 : decode cc pc = .ok (.new idx, 3)) (hd1 : decode cc (pc + 3) = .ok (.dup, 1))
    (hrun : ∀ (q : Nat) (H1 : Heap), va_P D tm_cl [(q, .inr (ci, mk_dv ci))] H1 → va_Run p l e R s m args below meth c H1 locs (cells + 1) (slots + tm_N ci) mc ms (F0 m (pc + 4) ls (.ref q :: .ref q :: rest)) (.ref q :: rest) (va_Qv post (fun u t => va_P D tm_cl (w1 q u) t.heap ∧ va_D (va_A [(q, .inr (ci, mk_dv ci))] H1.size) (w1 q u)) (va_A [(q, .inr (ci, mk_dv ci))] H1.size) #[.ref q]) (va_A [(q, .inr (ci, mk_dv ci))] H1.size))
    (kk : ∀ (q : Nat) (u : S) (H1 : Heap) (locs1 : List Loc), post u → va_P D tm_cl (ws ++ w1 q u) H1 → va_D A (ws ++ w1 q u) → va_S A H0 H1 locs1 → W p l e R s m args below meth c H1 locs1 (cells + 1 + mc) (slots + tm_N ci + ms) Q (F0 m (pc + 7) ls (.ref q :: rest))) : W p l e R s m args below meth c H locs cells slots Q (F0 m pc ls rest) := by
  refine va_new (ci := ci) (fs := mk_dv ci) hexec hb hts (fun w hw => hTs w (tm_lys_in hc w hw)) (tm_t ci) (tm_tys_of hc) hown hcl hinst hini hK hP hD hS hA (tm_cls hc) mk_dv_ok (by omega) (by omega) hd0 (fun q H1 hP1 hD1 hS1 => ?_)
  refine lv_dup hexec hb hd1 rfl ?_
  have hPc := hP1.sub (ws' := [(q, .inr (ci, mk_dv ci))]) [ws.length] (by simp)
  have hFc := va_free (wc := [(q, .inr (ci, mk_dv ci))]) hD1 hS1 hA [ws.length] (by simp)
  refine va_callv (hrun q H1 hPc) hS1 (fun q' _ h => hFc q' h) hFc (fun u t H2 locs2 ht hvm hw hB hz1 hk1 hS2 => ?_)
  obtain ⟨hP2, hD2⟩ := hB
  rw [ht] at hP2
  obtain ⟨hP3, hD3⟩ := va_join (wr := ws) (w1 := w1 q u) hP1 hD1 [ws.length] (List.range ws.length) (by simp) ws_rest (nd_of _ List.nodup_range) (fun i hi hj => by have z1 := List.mem_range.mp hi; have z2 := List.mem_singleton.mp hj; omega) hk1 hFc hP2 hD2
  exact kk q u H2 locs2 hw hP3 hD3 hS2
end
/-- the contract of a maker: from the new object alone; what it needs of the tables beside the words; its world behind -/
def mk_Ct (l : Launch) (D : va_G) (cT : Nat → ClassId) (y : MethodName) (bytes : ByteArray) (maxL : Nat) (rm : Room) (ci : Nat) (X : State → Prop) {S : Type} (w1 : Nat → S → va_W) (mc ms : Nat) : Prop := ∀ q sz : Nat, Met l y (mk_ws y bytes maxL) rm (va_Pc [.ref q] (fun U => U.heap.size = sz ∧ va_P D tm_cl [(q, .inr (ci, mk_dv ci))] U.heap ∧ va_K D tm_cl (tm_tys cT) U ∧ X U)) (va_Qv (fun _ : S => True) (fun u t => va_P D tm_cl (w1 q u) t.heap ∧ va_D (va_A [(q, .inr (ci, mk_dv ci))] sz) (w1 q u)) (va_A [(q, .inr (ci, mk_dv ci))] sz)) mc ms (va_A [(q, .inr (ci, mk_dv ci))] sz)
section
variable {p : Program} {l : Launch} {e : Env} {R : Room} {s : State} {m : MethodId} {args : Array Value} {below : List Frame} {meth : Method} {c : Code} {H : Heap} {locs : List Loc} {cells slots : Nat} {Q : State → Prop}
variable {cc : ByteArray} {pc : Nat} {ls : Array Slot} {rest : List Value} {D : va_G} {A : Nat → Prop} {ws : va_W} {H0 : Heap} {cT : Nat → ClassId}
/-- a nest mate's maker -/
theorem mk_objN {S : Type} {w1 : Nat → S → va_W} {own host : String} {ci idx idx2 mc ms nL maxL : Nat} {Ts : List Jvm.Cond} {y : MethodName} {bytes : ByteArray} {rm : Room} {X : State → Prop} (hM : mk_Ct l D cT y bytes maxL rm ci X w1 mc ms) (hexec : p.tables.exec = Jvm.exec) (hb : c.code = cc) (hml : c.maxLocals = nL) (hown : s.vm.findClass own = some m.cls) (hts : ∀ w ∈ Ts, w.before args s = true) (hTs : ∀ w ∈ tm_tbl, w ∈ Ts) (hc : ci < 8)
    (hcl : Jvm.Cond.classLink own idx (tm_cn ci) ∈ tm_tbl) (hinst : Jvm.Cond.instantiable (tm_cn ci) (tm_N ci) ∈ tm_tbl) (hini : Jvm.Cond.initialized (tm_cn ci) ∈ tm_tbl) (hcode : Jvm.Cond.code y bytes maxL none ∈ tm_tbl) (him : Jvm.Cond.instanceMethod y ∈ tm_tbl) (hl : va_Nw (.methodLinkNest own idx2 y host) s) (hy : y.cls = tm_cn ci ∧ y.name = "<init>" ∧ y.desc = "()V") (hX1 : ∀ (U V : State), U.vm = V.vm → X U → X V) (hX2 : ∀ U : State, s.WarmedH U.vm → X U)
    (hrm : rm.cells = mc ∧ rm.slots = ms ∧ rm.frames + 1 ≤ R.frames ∧ 8 + (maxL + 11) + rm.locals ≤ R.locals) (hK : va_K D tm_cl (tm_tys cT) s) (hP : va_P D tm_cl ws H) (hD : va_D A ws) (hS : va_S A H0 H locs) (hA : ∀ q, H0.size ≤ q → A q) (hsz : ls.size = nL) (hrest : ∀ q : Nat, ((Value.ref q :: rest).map fun v => v.category).sum ≤ 8)
    (hcells : cells + 1 + mc ≤ R.cells) (hslots : slots + tm_N ci + ms ≤ R.slots) (hd0 : decode cc pc = .ok (.new idx, 3)) (hd1 : decode cc (pc + 3) = .ok (.dup, 1)) (hd2 : decode cc (pc + 4) = .ok (.invokespecial idx2, 3))
    (kk : ∀ (q : Nat) (u : S) (H1 : Heap) (locs1 : List Loc), va_P D tm_cl (ws ++ w1 q u) H1 → va_D A (ws ++ w1 q u) → va_S A H0 H1 locs1 → W p l e R s m args below meth c H1 locs1 (cells + 1 + mc) (slots + tm_N ci + ms) Q (F0 m (pc + 7) ls (.ref q :: rest))) : W p l e R s m args below meth c H locs cells slots Q (F0 m pc ls rest) := by
  refine mk_obj (ci := ci) (mc := mc) (ms := ms) (w1 := w1) (post := fun _ => True) hexec hb hown hts hTs hc (hts _ (hTs _ hcl)) (hts _ (hTs _ hinst)) (hts _ (hTs _ hini)) hK hP hD hS hA hcells hslots hd0 hd1 (fun q H1 hP1 => ?_) (fun q u H1 locs1 _ => kk q u H1 locs1)
  have hne : y.cls ≠ "java/lang/invoke/MethodHandle" ∧ y.cls ≠ "java/lang/invoke/VarHandle" ∧ (parseMethodDescriptor y.desc).map (fun d => d.parameters.length) = some 0 := by
    rw [hy.1, hy.2.2]
    have h8 : ∀ k, k < 8 → tm_cn k ≠ "java/lang/invoke/MethodHandle" ∧ tm_cn k ≠ "java/lang/invoke/VarHandle" := by decide +kernel
    exact ⟨(h8 ci hc).1, (h8 ci hc).2, by decide +kernel⟩
  exact va_runIN (own := own) (host := host) (As := []) (n := 0) (b := q) (nL := nL) ⟨hexec, hb, hml, hown, hts⟩ (hM q H1.size) ⟨va_cnB 0 hts (mk_good hTs hcode) rfl hrm.1 hrm.2.1 hl (by rw [hy.1]; exact hts _ (hTs _ hini)) hne ⟨hrm.2.2.1, hrm.2.2.2⟩, hy.2.1, hts _ (hTs _ him)⟩ ⟨fun a U g mk z => by
    obtain ⟨z0, z1, z2, z3, z4⟩ := z
    exact ⟨z0, z1, z2, va_K.moved (u := U) (U := U.calling g mk a) (Vm.Alike.refl U.vm) z3, hX1 U (U.calling g mk a) rfl z4⟩, fun U hU hW => ⟨rfl, by rw [hU], by rw [hU]; exact hP1, va_K.moved hW.alike hK, hX2 U hW⟩⟩ rfl rfl hsz rfl (lv_room (hrest q)) hd2 ⟨hcells, hslots⟩
/-- a public maker -/
theorem mk_objP {S : Type} {w1 : Nat → S → va_W} {own : String} {ci idx idx2 mc ms nL maxL : Nat} {Ts : List Jvm.Cond} {y : MethodName} {bytes : ByteArray} {rm : Room} {X : State → Prop} (hM : mk_Ct l D cT y bytes maxL rm ci X w1 mc ms) (hexec : p.tables.exec = Jvm.exec) (hb : c.code = cc) (hml : c.maxLocals = nL) (hown : s.vm.findClass own = some m.cls) (hts : ∀ w ∈ Ts, w.before args s = true) (hTs : ∀ w ∈ tm_tbl, w ∈ Ts) (hc : ci < 8)
    (hcl : Jvm.Cond.classLink own idx (tm_cn ci) ∈ tm_tbl) (hinst : Jvm.Cond.instantiable (tm_cn ci) (tm_N ci) ∈ tm_tbl) (hini : Jvm.Cond.initialized (tm_cn ci) ∈ tm_tbl) (hcode : Jvm.Cond.code y bytes maxL none ∈ tm_tbl) (him : Jvm.Cond.instanceMethod y ∈ tm_tbl) (hl : Jvm.Cond.methodLink own idx2 y ∈ tm_tbl) (hy : y.cls = tm_cn ci ∧ y.name = "<init>" ∧ y.desc = "()V") (hX1 : ∀ (U V : State), U.vm = V.vm → X U → X V) (hX2 : ∀ U : State, s.WarmedH U.vm → X U)
    (hrm : rm.cells = mc ∧ rm.slots = ms ∧ rm.frames + 1 ≤ R.frames ∧ 8 + (maxL + 11) + rm.locals ≤ R.locals) (hK : va_K D tm_cl (tm_tys cT) s) (hP : va_P D tm_cl ws H) (hD : va_D A ws) (hS : va_S A H0 H locs) (hA : ∀ q, H0.size ≤ q → A q) (hsz : ls.size = nL) (hrest : ∀ q : Nat, ((Value.ref q :: rest).map fun v => v.category).sum ≤ 8)
    (hcells : cells + 1 + mc ≤ R.cells) (hslots : slots + tm_N ci + ms ≤ R.slots) (hd0 : decode cc pc = .ok (.new idx, 3)) (hd1 : decode cc (pc + 3) = .ok (.dup, 1)) (hd2 : decode cc (pc + 4) = .ok (.invokespecial idx2, 3))
    (kk : ∀ (q : Nat) (u : S) (H1 : Heap) (locs1 : List Loc), va_P D tm_cl (ws ++ w1 q u) H1 → va_D A (ws ++ w1 q u) → va_S A H0 H1 locs1 → W p l e R s m args below meth c H1 locs1 (cells + 1 + mc) (slots + tm_N ci + ms) Q (F0 m (pc + 7) ls (.ref q :: rest))) : W p l e R s m args below meth c H locs cells slots Q (F0 m pc ls rest) := by
  refine mk_obj (ci := ci) (mc := mc) (ms := ms) (w1 := w1) (post := fun _ => True) hexec hb hown hts hTs hc (hts _ (hTs _ hcl)) (hts _ (hTs _ hinst)) (hts _ (hTs _ hini)) hK hP hD hS hA hcells hslots hd0 hd1 (fun q H1 hP1 => ?_) (fun q u H1 locs1 _ => kk q u H1 locs1)
  have hne : y.cls ≠ "java/lang/invoke/MethodHandle" ∧ y.cls ≠ "java/lang/invoke/VarHandle" ∧ (parseMethodDescriptor y.desc).map (fun d => d.parameters.length) = some 0 := by
    rw [hy.1, hy.2.2]
    have h8 : ∀ k, k < 8 → tm_cn k ≠ "java/lang/invoke/MethodHandle" ∧ tm_cn k ≠ "java/lang/invoke/VarHandle" := by decide +kernel
    exact ⟨(h8 ci hc).1, (h8 ci hc).2, by decide +kernel⟩
  exact va_runI (own := own) (As := []) (n := 0) (b := q) (nL := nL) ⟨hexec, hb, hml, hown, hts⟩ (hM q H1.size) (cwI 0 hts (mk_good hTs hcode) rfl hrm.1 hrm.2.1 (by rw [hy.1]; exact hts _ (hTs _ hini)) (hts _ (hTs _ hl)) (hts _ (hTs _ him)) hy.2.1 hne ⟨hrm.2.2.1, hrm.2.2.2⟩) ⟨fun a U g mk z => by
    obtain ⟨z0, z1, z2, z3, z4⟩ := z
    exact ⟨z0, z1, z2, va_K.moved (u := U) (U := U.calling g mk a) (Vm.Alike.refl U.vm) z3, hX1 U (U.calling g mk a) rfl z4⟩, fun U hU hW => ⟨rfl, by rw [hU], by rw [hU]; exact hP1, va_K.moved hW.alike hK, hX2 U hW⟩⟩ rfl rfl hsz rfl (lv_room (hrest q)) hd2 ⟨hcells, hslots⟩
end
