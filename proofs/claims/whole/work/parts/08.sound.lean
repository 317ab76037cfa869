/-! THE SMALL MACHINE'S RUNS ARE THE MACHINE'S -/
def tm_lv (ad : TA → Nat) (lc : Lc) : List (Nat × Value) := (List.range lc.length).filterMap (fun i => match lc[i]? with
  | some (some v) => some (i, tm_v ad v)
  | _ => none)
def tm_L (ad : TA → Nat) (nL : Nat) (ls : Array Slot) (lc : Lc) : Prop := lc.length = nL ∧ lv_has ls nL (tm_lv ad lc)
theorem tm_v_cat (ad : TA → Nat) (v : AV) : (tm_v ad v).category = 1 := by cases v <;> rfl
theorem tm_lv_mem {ad : TA → Nat} {lc : Lc} {i : Nat} {v : AV} (h : lc[i]? = some (some v)) : (i, tm_v ad v) ∈ tm_lv ad lc := by
  refine List.mem_filterMap.mpr ⟨i, List.mem_range.mpr (List.getElem?_eq_some_iff.mp h).1, ?_⟩
  rw [h]
theorem tm_lv_of {ad : TA → Nat} {lc : Lc} {q : Nat × Value} (h : q ∈ tm_lv ad lc) : ∃ v, lc[q.1]? = some (some v) ∧ q.2 = tm_v ad v := by
  obtain ⟨i, -, hi⟩ := List.mem_filterMap.mp h
  split at hi
  next v hv => cases hi; exact ⟨v, hv, rfl⟩
  next => cases hi
theorem tm_L.get {ad : TA → Nat} {nL : Nat} {ls : Array Slot} {lc : Lc} (h : tm_L ad nL ls lc) {i : Nat} {v : AV} (hi : lc[i]? = some (some v)) : ls[i]? = some (.val (tm_v ad v)) := h.2.2.2 _ (tm_lv_mem hi)
theorem tm_L.set {ad : TA → Nat} {nL : Nat} {ls ls' : Array Slot} {lc : Lc} (h : tm_L ad nL ls lc) {i : Nat} {v : AV} (h' : lv_has ls' nL ((i, tm_v ad v) :: (tm_lv ad lc).filter (fun q => !(q.1 == i) && !(q.1 + 1 == i && q.2.category == 2)))) : tm_L ad nL ls' (lc.set i (some v)) := by
  refine ⟨by rw [List.length_set]; exact h.1, h'.1, h'.2.1, fun q hq => ?_⟩
  obtain ⟨u, h1, h2⟩ := tm_lv_of hq
  by_cases hqi : q.1 = i
  · have hlen : i < lc.length := by
      have := (List.getElem?_eq_some_iff.mp h1).1
      rw [List.length_set] at this
      omega
    rw [hqi, List.getElem?_set_self hlen] at h1
    cases h1
    have e : q = (i, tm_v ad v) := Prod.ext hqi h2
    exact h'.2.2 q (by rw [e]; exact List.mem_cons_self)
  · rw [List.getElem?_set_ne (Ne.symm hqi)] at h1
    have hm : (q.1, tm_v ad u) ∈ tm_lv ad lc := tm_lv_mem h1
    rw [← h2] at hm
    refine h'.2.2 q (List.mem_cons_of_mem _ (List.mem_filter.mpr ⟨hm, ?_⟩))
    have hc : q.2.category = 1 := by rw [h2]; exact tm_v_cat ad u
    simp [hqi, hc]
def tm_A (ad : TA → Nat) : Nat → Prop := fun q => ∃ t ∈ tm_all, q = ad t
def tm_room (d : Nat) : Room := { frames := d, cells := 0, slots := 0, locals := 60 * d }
def tm_ws (J : Nat) : List Jvm.Cond := .code (tm_y J) (tm_cc J) (tm_mL J) (tm_rt J) :: tm_tbl
def tm_Q (D : va_G) (ad : TA → Nat) (cT : Nat → ClassId) (r : Rs) : Array Value → State → Outcome → State → Prop := fun _ st oc t => oc = .returned (r.1.map (tm_v ad)) ∧ va_P D tm_cl (tm_WS ad cT r.2) t.heap ∧ va_F (tm_A ad) st t
def tm_P (D : va_G) (ad : TA → Nat) (cT : Nat → ClassId) (w : Wd) : State → Prop := fun U => va_P D tm_cl (tm_WS ad cT w) U.heap ∧ va_K D tm_cl (tm_tys cT) U
def tm_Ct (l : Launch) (D : va_G) (ad : TA → Nat) (cT : Nat → ClassId) (d J : Nat) (as : List AV) (w : Wd) (r : Rs) : Prop := Met l (tm_y J) (tm_ws J) (tm_room d) (va_Pc (as.map (tm_v ad)) (tm_P D ad cT w)) (tm_Q D ad cT r) 0 0 (tm_A ad)
def tm_Fr (p : Program) (s : State) (m : MethodId) (args : Array Value) (c : Code) (D : va_G) (ad : TA → Nat) (cT : Nat → ClassId) (A : Nat → Prop) (Ts : List Jvm.Cond) (J : Nat) : Prop := p.tables.exec = Jvm.exec ∧ c.code = tm_cc J ∧ c.maxLocals = tm_mL J ∧ s.vm.findClass (tm_cn (tm_mc J)) = some m.cls ∧ (∀ w ∈ Ts, w.before args s = true) ∧ (∀ w ∈ tm_tbl, w ∈ Ts) ∧ va_K D tm_cl (tm_tys cT) s ∧ tm_D A ad
/-- what a call may be taken to do, and the room for it -/
def tm_HC (l : Launch) (R : Room) (D : va_G) (ad : TA → Nat) (cT : Nat → ClassId) (C : CF) : Prop := ∀ J as w r, C J as w = some r → (J < 191 → ∃ d, d + 1 ≤ R.frames ∧ 60 * d + 40 ≤ R.locals ∧ tm_Ct l D ad cT d J as w r) ∧ (900 ≤ J → tm_jdk J as w = some r ∧ 1 ≤ R.frames ∧ 40 ≤ R.locals)
def tm_HS (s : State) (ad : TA → Nat) (A : Nat → Prop) (scr : Scr) : Prop := ∀ L xs, scr = some (L, xs) → va_X (ad (sg 99)) L xs s s.heap ∧ ad (sg 99) < s.heap.size ∧ ¬ A (ad (sg 99))
-- the tables
theorem tm_lk_in {own idx a b : Nat} : ∀ {l : List (Nat × Nat × Nat × Nat × Nat)}, tm_lk own idx l = some (a, b) → ∃ p, (own, idx, a, b, p) ∈ l
  | [], h => by cases h
  | e :: r, h => by
    unfold tm_lk at h
    split at h
    next he =>
      obtain ⟨o, i, x, y, p⟩ := e
      obtain ⟨rfl, rfl⟩ := he
      cases h
      exact ⟨p, List.mem_cons_self⟩
    next =>
      obtain ⟨p, hp⟩ := tm_lk_in h
      exact ⟨p, List.mem_cons_of_mem _ hp⟩
theorem tm_fl_in {own idx a b : Nat} (h : tm_lk own idx tm_fl = some (a, b)) : Jvm.Cond.fieldLink (tm_cn own) idx (tm_T a b).1 (tm_T a b).2.1 (tm_T a b).2.2.1 ∈ tm_tbl := by
  obtain ⟨p, hp⟩ := tm_lk_in h
  have h1 := List.all_eq_true.mp tm_flok _ hp
  exact tm_tables_in (of_decide_eq_true h1) rfl
theorem tm_kl_in {own idx a b : Nat} (h : tm_lk own idx tm_kl = some (a, b)) : Jvm.Cond.constant (tm_cn own) idx (tm_k a b) ∈ tm_tbl := by
  obtain ⟨p, hp⟩ := tm_lk_in h
  have h1 := List.all_eq_true.mp tm_klok _ hp
  exact tm_tables_in (of_decide_eq_true h1) rfl
theorem tm_ml_in {own idx a b : Nat} (h : tm_lk own idx tm_ml = some (a, b)) : Jvm.Cond.methodLink (tm_cn own) idx (tm_mn a) ∈ tm_tbl := by
  obtain ⟨p, hp⟩ := tm_lk_in h
  have h1 := List.all_eq_true.mp tm_mlok _ hp
  exact tm_tables_in (of_decide_eq_true h1) rfl
theorem tm_range (q : Nat → Bool) (f : ∀ i n, ((List.range n).all (fun k => q (i + k))) = true → ∀ J, i ≤ J → J < i + n → q J = true) : True := trivial
theorem tm_rng {q : Nat → Bool} {i n : Nat} (h : ((List.range n).all (fun k => q (i + k))) = true) {J : Nat} (h1 : i ≤ J) (h2 : J < i + n) : q J = true := by
  have h3 := List.all_eq_true.mp h (J - i) (List.mem_range.mpr (by omega))
  rw [show i + (J - i) = J by omega] at h3
  exact h3
theorem tm_mok_all {J : Nat} (h : J < 191) : tm_mok J = true := by
  rcases Nat.lt_or_ge J 16 with h0 | h0
  · exact tm_rng (q := tm_mok) tm_mok0 (by omega) (by omega)
  rcases Nat.lt_or_ge J 32 with h1 | h1
  · exact tm_rng (q := tm_mok) tm_mok1 (by omega) (by omega)
  rcases Nat.lt_or_ge J 48 with h2 | h2
  · exact tm_rng (q := tm_mok) tm_mok2 (by omega) (by omega)
  rcases Nat.lt_or_ge J 64 with h3 | h3
  · exact tm_rng (q := tm_mok) tm_mok3 (by omega) (by omega)
  rcases Nat.lt_or_ge J 80 with h4 | h4
  · exact tm_rng (q := tm_mok) tm_mok4 (by omega) (by omega)
  rcases Nat.lt_or_ge J 96 with h5 | h5
  · exact tm_rng (q := tm_mok) tm_mok5 (by omega) (by omega)
  rcases Nat.lt_or_ge J 112 with h6 | h6
  · exact tm_rng (q := tm_mok) tm_mok6 (by omega) (by omega)
  rcases Nat.lt_or_ge J 128 with h7 | h7
  · exact tm_rng (q := tm_mok) tm_mok7 (by omega) (by omega)
  rcases Nat.lt_or_ge J 144 with h8 | h8
  · exact tm_rng (q := tm_mok) tm_mok8 (by omega) (by omega)
  rcases Nat.lt_or_ge J 160 with h9 | h9
  · exact tm_rng (q := tm_mok) tm_mok9 (by omega) (by omega)
  rcases Nat.lt_or_ge J 176 with h10 | h10
  · exact tm_rng (q := tm_mok) tm_mok10 (by omega) (by omega)
  · exact tm_rng (q := tm_mok) tm_mok11 (by omega) (by omega)
theorem tm_blk_all {q : tm_E → Bool} : ∀ (bs : List (List tm_E)), (∀ i, ((bs.drop i).take 2).all (fun bl => bl.all q) = true) → bs.all (fun bl => bl.all q) = true := by
  intro bs h
  refine List.all_eq_true.mpr fun b hb => ?_
  obtain ⟨i, hi⟩ := List.getElem?_of_mem hb
  refine List.all_eq_true.mp (h i) b ?_
  have h1 : (List.take 2 (List.drop i bs))[0]? = some b := by
    rw [List.getElem?_take, List.getElem?_drop]
    simpa using hi
  exact List.mem_of_getElem? h1
theorem tm_okL {J : Nat} (h : J < 192) {bl : List tm_E} {e : tm_E} (hb : bl ∈ tm_ks J) (he : e ∈ bl) : tm_okE J e = true := by
  have key : ∀ {i n : Nat}, tm_okR i n = true → i ≤ J → J < i + n → tm_okE J e = true := fun h0 h1 h2 => List.all_eq_true.mp (List.all_eq_true.mp (tm_rng (q := tm_okJ) h0 h1 h2) bl hb) e he
  rcases Nat.lt_or_ge J 16 with h0 | h0
  · exact key tm_ok0 (by omega) (by omega)
  rcases Nat.lt_or_ge J 32 with h1 | h1
  · exact key tm_ok1 (by omega) (by omega)
  rcases Nat.lt_or_ge J 48 with h2 | h2
  · exact key tm_ok2 (by omega) (by omega)
  rcases Nat.lt_or_ge J 64 with h3 | h3
  · exact key tm_ok3 (by omega) (by omega)
  rcases Nat.lt_or_ge J 80 with h4 | h4
  · exact key tm_ok4 (by omega) (by omega)
  rcases Nat.lt_or_ge J 96 with h5 | h5
  · exact key tm_ok5 (by omega) (by omega)
  rcases Nat.lt_or_ge J 112 with h6 | h6
  · exact key tm_ok6 (by omega) (by omega)
  rcases Nat.lt_or_ge J 128 with h7 | h7
  · exact key tm_ok7 (by omega) (by omega)
  rcases Nat.lt_or_ge J 144 with h8 | h8
  · exact key tm_ok8 (by omega) (by omega)
  rcases Nat.lt_or_ge J 160 with h9 | h9
  · exact key tm_ok9 (by omega) (by omega)
  rcases Nat.lt_or_ge J 176 with h10 | h10
  · exact key tm_ok10 (by omega) (by omega)
  rcases Nat.lt_or_ge J 191 with h11 | h11
  · exact key tm_ok11 (by omega) (by omega)
  have hJ : J = 191 := by omega
  subst hJ
  obtain ⟨i, hi⟩ := List.getElem?_of_mem hb
  have hl : (tm_ks 191).length = 37 := by decide +kernel
  have hi37 : i < 37 := by have := (List.getElem?_eq_some_iff.mp hi).1; omega
  have kb : ∀ {a : Nat}, tm_okB a 2 = true → a ≤ i → i < a + 2 → tm_okE 191 e = true := by
    intro a h0 h1 h2
    refine List.all_eq_true.mp (List.all_eq_true.mp h0 bl ?_) e he
    have h3 : (List.take 2 (List.drop a (tm_ks 191)))[i - a]? = some bl := by
      rw [List.getElem?_take, if_pos (by omega), List.getElem?_drop, show a + (i - a) = i by omega]
      exact hi
    exact List.mem_of_getElem? h3
  rcases (by omega : i < 2 ∨ (2 ≤ i ∧ i < 4) ∨ (4 ≤ i ∧ i < 6) ∨ (6 ≤ i ∧ i < 8) ∨ (8 ≤ i ∧ i < 10) ∨ (10 ≤ i ∧ i < 12) ∨ (12 ≤ i ∧ i < 14) ∨ (14 ≤ i ∧ i < 16) ∨ (16 ≤ i ∧ i < 18) ∨ 18 ≤ i) with z | z | z | z | z | z | z | z | z | z
  · exact kb tm_okL0 (by omega) (by omega)
  · exact kb tm_okL1 (by omega) (by omega)
  · exact kb tm_okL2 (by omega) (by omega)
  · exact kb tm_okL3 (by omega) (by omega)
  · exact kb tm_okL4 (by omega) (by omega)
  · exact kb tm_okL5 (by omega) (by omega)
  · exact kb tm_okL6 (by omega) (by omega)
  · exact kb tm_okL7 (by omega) (by omega)
  · exact kb tm_okL8 (by omega) (by omega)
  rcases (by omega : (18 ≤ i ∧ i < 20) ∨ (20 ≤ i ∧ i < 22) ∨ (22 ≤ i ∧ i < 24) ∨ (24 ≤ i ∧ i < 26) ∨ (26 ≤ i ∧ i < 28) ∨ (28 ≤ i ∧ i < 30) ∨ (30 ≤ i ∧ i < 32) ∨ (32 ≤ i ∧ i < 34) ∨ (34 ≤ i ∧ i < 36) ∨ 36 ≤ i) with z | z | z | z | z | z | z | z | z | z
  · exact kb tm_okL9 (by omega) (by omega)
  · exact kb tm_okL10 (by omega) (by omega)
  · exact kb tm_okL11 (by omega) (by omega)
  · exact kb tm_okL12 (by omega) (by omega)
  · exact kb tm_okL13 (by omega) (by omega)
  · exact kb tm_okL14 (by omega) (by omega)
  · exact kb tm_okL15 (by omega) (by omega)
  · exact kb tm_okL16 (by omega) (by omega)
  · exact kb tm_okL17 (by omega) (by omega)
  · exact kb tm_okL18 (by omega) (by omega)
theorem tm_fnd_in {pc : Nat} {x : Instr × Nat × Nat × Nat} : ∀ {l : List tm_E}, tm_fnd pc l = some x → (pc, x) ∈ l
  | [], h => by cases h
  | e :: r, h => by
    unfold tm_fnd at h
    split at h
    next he =>
      cases h
      have h1 := Nat.eq_of_beq_eq_true he
      obtain ⟨a, b⟩ := e
      dsimp only at h1
      subst h1
      exact List.mem_cons_self
    next => exact List.mem_cons_of_mem _ (tm_fnd_in h)
theorem tm_at_ok {J pc : Nat} (hJ : J < 192) {ins : Instr} {len a b : Nat} (h : tm_at J pc = some (ins, len, a, b)) : decode (tm_cc J) pc = .ok (ins, len) ∧ tm_ok (tm_mc J) pc ins len a b = true := by
  unfold tm_at at h
  have h1 := tm_fnd_in h
  cases hb : (tm_ks J)[pc / 32]? with
  | none =>
    rw [List.getD_eq_getElem?_getD, hb] at h1
    cases h1
  | some bl =>
    rw [List.getD_eq_getElem?_getD, hb] at h1
    have h2 := tm_okL hJ (List.mem_of_getElem? hb) h1
    unfold tm_okE at h2
    simp only [Bool.and_eq_true, decide_eq_true_eq] at h2
    exact h2
