/-! one instruction of the small machine is one of the machine -/
def tm_Go (p : Program) (l : Launch) (e : Env) (R : Room) (s : State) (m : MethodId) (args : Array Value) (below : List Frame) (meth : Method) (c : Code) (cells slots : Nat) (Q : State → Prop) (D : va_G) (ad : TA → Nat) (cT : Nat → ClassId) (A : Nat → Prop) (J : Nat) (x : Cfg) : Prop := ∀ (ls : Array Slot) (H : Heap) (locs : List Loc), tm_L ad (tm_mL J) ls x.2.1 → va_P D tm_cl (tm_WS ad cT x.2.2.2) H → va_S A s.heap H locs → W p l e R s m args below meth c H locs cells slots Q (F0 m x.1 ls (x.2.2.1.map (tm_v ad)))
def tm_Rt (p : Program) (l : Launch) (e : Env) (R : Room) (s : State) (m : MethodId) (args : Array Value) (below : List Frame) (meth : Method) (c : Code) (cells slots : Nat) (Q : State → Prop) (D : va_G) (ad : TA → Nat) (cT : Nat → ClassId) (A : Nat → Prop) (J : Nat) (r : Rs) : Prop := ∀ (pc : Nat) (ls : Array Slot) (H : Heap) (locs : List Loc), va_P D tm_cl (tm_WS ad cT r.2) H → va_S A s.heap H locs →
  (∀ x, r.1 = some (.inl x) → decode (tm_cc J) pc = .ok (.ireturn, 1) → (tm_rk J = 1 ∨ (tm_rk J = 2 ∧ (x = 0 ∨ x = 1))) → W p l e R s m args below meth c H locs cells slots Q (F0 m pc ls [.int x])) ∧
  (∀ t, r.1 = some (.inr t) → decode (tm_cc J) pc = .ok (.areturn, 1) → tm_rk J = 3 → W p l e R s m args below meth c H locs cells slots Q (F0 m pc ls [.ref (ad t)])) ∧
  (r.1 = none → decode (tm_cc J) pc = .ok (.return_, 1) → tm_rk J = 0 → W p l e R s m args below meth c H locs cells slots Q (F0 m pc ls []))
theorem tm_cat_sum (ad : TA → Nat) : ∀ r : List AV, ((r.map (tm_v ad)).map fun v => v.category).sum = r.length
  | [] => rfl
  | v :: r => by
    simp only [List.map_cons, List.sum_cons, List.length_cons, tm_v_cat]
    rw [tm_cat_sum ad r]
    omega
theorem tm_arr_y {t : TA} {y n : Nat} (h : tm_arr t = some (y, n)) : y = 0 ∨ y = 1 ∨ y = 2 := by
  rcases t with ⟨c, p⟩ | ⟨r, p⟩ | j
  all_goals
    unfold tm_arr at h
    dsimp only at h
    split at h
    all_goals first | (cases h; done) | (cases h; omega)
theorem ti_cpy {as : List AV} {w : Wd} {r : Rs} (h : tm_jdk 999 as w = some r) : ∃ s0 sp d0 dp n n0 n1, as = [.inr s0, .inl sp, .inr d0, .inl dp, .inl n] ∧ tm_arr s0 = some (0, n0) ∧ tm_arr d0 = some (0, n1) ∧ (¬ sp < 0 ∧ ¬ dp < 0 ∧ ¬ n < 0 ∧ sp.toNatClampNeg + n.toNatClampNeg ≤ n0 ∧ dp.toNatClampNeg + n.toNatClampNeg ≤ n1) ∧ r = (none, fun t k => if t = d0 then va_cpy (w s0) (w d0) sp.toNatClampNeg dp.toNatClampNeg n.toNatClampNeg k else w t k) := by
  unfold tm_jdk at h
  split at h
  next s0 sp d0 dp n _ =>
    split at h
    next n0 n1 h0 h1 =>
      split at h
      next hc => cases h; exact ⟨s0, sp, d0, dp, n, n0, n1, rfl, h0, h1, hc, rfl⟩
      next => cases h
    next => cases h
  next hJ => exact absurd hJ (by decide)
  next hJ => exact absurd hJ (by decide)
  next => cases h
theorem ti_max {as : List AV} {w : Wd} {r : Rs} (h : tm_jdk 997 as w = some r) : ∃ x y, as = [.inl x, .inl y] ∧ r = (some (.inl (if x < y then y else x)), w) := by
  unfold tm_jdk at h
  split at h
  next hJ => exact absurd hJ (by decide)
  next x y _ => cases h; exact ⟨x, y, rfl, rfl⟩
  next hJ => exact absurd hJ (by decide)
  next => cases h
theorem ti_min {as : List AV} {w : Wd} {r : Rs} (h : tm_jdk 996 as w = some r) : ∃ x y, as = [.inl x, .inl y] ∧ r = (some (.inl (if y < x then y else x)), w) := by
  unfold tm_jdk at h
  split at h
  next hJ => exact absurd hJ (by decide)
  next hJ => exact absurd hJ (by decide)
  next x y _ => cases h; exact ⟨x, y, rfl, rfl⟩
  next => cases h
section
variable {p : Program} {l : Launch} {e : Env} {R : Room} {s : State} {m : MethodId} {args : Array Value} {below : List Frame} {meth : Method} {c : Code} {cells slots : Nat} {Q : State → Prop}
variable {D : va_G} {ad : TA → Nat} {cT : Nat → ClassId} {A : Nat → Prop} {Ts : List Jvm.Cond} {J : Nat} {C : CF} {scr : Scr}
theorem tm_call {H : Heap} {locs : List Loc} {pc : Nat} {ls : Array Slot} {st0 rest : List Value} {r : Rs} {a' : Array Value} (hr : va_Run p l e R s m args below meth c H locs cells slots 0 0 (F0 m pc ls st0) rest (tm_Q D ad cT r a') (tm_A ad)) (hS : va_S A s.heap H locs) (hA : ∀ q, tm_A ad q → A q)
    (kk : ∀ (H1 : Heap) (locs1 : List Loc), va_P D tm_cl (tm_WS ad cT r.2) H1 → va_S A s.heap H1 locs1 → W p l e R s m args below meth c H1 locs1 cells slots Q (F0 m (pc + 3) ls ((r.1.map (tm_v ad)).toList ++ rest))) : W p l e R s m args below meth c H locs cells slots Q (F0 m pc ls st0) := by
  intro T hT X
  obtain ⟨v, st₀, t, T', L, h0, X', hL, e1, e2, ⟨hv, hp, hz, hk⟩, st⟩ := hr T hT X
  cases hv
  rw [h0] at hz hk
  obtain ⟨t2, a1, b1⟩ := kk T'.heap (locs ++ L) (by rw [e1]; exact hp)
    ⟨Nat.le_trans hS.1 (by rw [e1]; exact hz), fun q h1 h2 => by rw [e1, hk q (Nat.lt_of_lt_of_le h1 hS.1) (fun z => h2 (hA q z))]; exact hS.2.1 q h1 h2, fun q hq => by
      rcases List.mem_append.mp hq with h | h
      · exact hS.2.2 q h
      · exact hA _ (hL q h)⟩ T' rfl X'
  exact ⟨t2, st t2 a1, b1⟩
theorem tm_A_of (F : tm_Fr p s m args c D ad cT A Ts J) : ∀ q, tm_A ad q → A q := by
  rintro q ⟨t, ht, rfl⟩
  exact F.2.2.2.2.2.2.2.1 t ht
theorem tm_gets (F : tm_Fr p s m args c D ad cT A Ts J) {pc x a b n : Nat} {lc : Lc} {st : List AV} {w : Wd} {o : Rs ⊕ Cfg} (hd : decode (tm_cc J) pc = .ok (.getfield x, 3)) (h1 : tm_lk (tm_mc J) x tm_fl = some (a, b)) (h2 : a < 8) (h3 : b < tm_N a) (h : tm_gf a b (pc + 3) lc st w = some o) (kk : ∀ c', o = .inr c' → tm_Go p l e R s m args below meth c cells slots Q D ad cT A J c') : tm_Go p l e R s m args below meth c cells slots Q D ad cT A J (pc, lc, st, w) := by
  obtain ⟨hx, hb, hml, hown, hts, hTs, hK, hD⟩ := F
  obtain ⟨t, r, rfl, rfl, hc⟩ := ti_gf h
  intro ls H locs hL hP hS
  obtain ⟨q0, hq, hat⟩ := tm_at_WS (ad := ad) (cT := cT) (tm_obj_in h2)
  have e0 := hat w
  rw [tm_cell_o h2] at e0
  have hfv : (tm_fs ad w t)[b]? = some (tm_fv ad w t b) := tm_fs_at h3
  rcases hc with ⟨u, hu, rfl⟩ | ⟨hu, rfl⟩
  · have ev : tm_fv ad w t b = .ref (ad u) := by unfold tm_fv; rw [hu]
    rw [ev] at hfv
    exact va_get (C := tm_cn (tm_obj t)) (T := tm_T (tm_obj t)) (N := tm_N (tm_obj t)) hx hb hts (fun w hw => hTs w (tm_lys_in h2 w hw)) hown hK hP q0 e0 (tm_cls h2) b h3 (hts _ (hTs _ (tm_fl_in h1))) (fun _ h => h) hfv hd (kk _ rfl ls H locs hL hP hS)
  · have ev : tm_fv ad w t b = .int (w t b) := by unfold tm_fv; rw [hu]
    rw [ev] at hfv
    exact va_get (C := tm_cn (tm_obj t)) (T := tm_T (tm_obj t)) (N := tm_N (tm_obj t)) hx hb hts (fun w hw => hTs w (tm_lys_in h2 w hw)) hown hK hP q0 e0 (tm_cls h2) b h3 (hts _ (hTs _ (tm_fl_in h1))) (fun _ h => h) hfv hd (kk _ rfl ls H locs hL hP hS)
theorem tm_puts (F : tm_Fr p s m args c D ad cT A Ts J) {pc x a b n : Nat} {lc : Lc} {st : List AV} {w : Wd} {o : Rs ⊕ Cfg} (hd : decode (tm_cc J) pc = .ok (.putfield x, 3)) (h1 : tm_lk (tm_mc J) x tm_fl = some (a, b)) (h2 : a < 8) (h3 : b < tm_N a) (h : tm_pf a b (pc + 3) lc st w = some o) (kk : ∀ c', o = .inr c' → tm_Go p l e R s m args below meth c cells slots Q D ad cT A J c') : tm_Go p l e R s m args below meth c cells slots Q D ad cT A J (pc, lc, st, w) := by
  obtain ⟨hx, hb, hml, hown, hts, hTs, hK, hD⟩ := F
  obtain ⟨x0, t, r, rfl, rfl, hu, hf, rfl⟩ := ti_pf h
  intro ls H locs hL hP hS
  obtain ⟨q0, hq, hat⟩ := tm_at_WS (ad := ad) (cT := cT) (tm_obj_in h2)
  have e0 := hat w
  rw [tm_cell_o h2] at e0
  obtain ⟨hfin, hty⟩ := tm_fld h2 h3 hu
  have hpd := tm_tys_of h2 b h3
  rw [hty] at hpd
  have hnf : narrow (if tm_obj t = 2 ∧ b = 1 then FieldType.boolean else .int) (.int x0) = .int x0 ∧ fits (if tm_obj t = 2 ∧ b = 1 then FieldType.boolean else .int) (.int x0) = true := by
    by_cases hc : tm_obj t = 2 ∧ b = 1
    · rw [if_pos hc]
      rcases ti_fit hf hc with rfl | rfl
      · exact ⟨by decide, by decide⟩
      · exact ⟨by decide, by decide⟩
    · rw [if_neg hc]
      exact ⟨rfl, rfl⟩
  refine va_put (C := tm_cn (tm_obj t)) (T := tm_T (tm_obj t)) (N := tm_N (tm_obj t)) hx hb hts (fun w hw => hTs w (tm_lys_in h2 w hw)) (tm_t (tm_obj t)) (tm_tys_of h2) (tm_nms_of h2) hown hK hP (hD.va cT w) hS q0 e0 (tm_cls h2) b h3 (hts _ (hTs _ (tm_fl_in h1))) (fun _ h => h) hfin hpd hnf.1 hnf.2 (by unfold tm_fs; rw [List.length_map, List.length_range]; exact h3) hd (fun H1 locs1 hP1 _ hS1 => ?_)
  have hP1 : va_P D tm_cl ((tm_WS ad cT w).set q0 (ad t, .inr (tm_obj t, (tm_fs ad w t).set b (.int x0)))) H1 := hP1
  rw [tm_set_WS (w' := wset w t b x0) hq (by rw [tm_cell_o h2, tm_fs_set hu]) (fun u hne => wset_ne hne)] at hP1
  exact kk _ rfl ls H1 locs1 hL hP1 hS1
theorem tm_sto (F : tm_Fr p s m args c D ad cT A Ts J) {pc : Nat} {lc : Lc} {st : List AV} {w : Wd} {o : Rs ⊕ Cfg} (hd : decode (tm_cc J) pc = .ok (.iastore, 1)) (h : tm_as (pc + 1) lc st w = some o) (kk : ∀ c', o = .inr c' → tm_Go p l e R s m args below meth c cells slots Q D ad cT A J c') : tm_Go p l e R s m args below meth c cells slots Q D ad cT A J (pc, lc, st, w) := by
  obtain ⟨hx, hb, hml, hown, hts, hTs, hK, hD⟩ := F
  obtain ⟨x, i, t, r, n, rfl, ha, hi, rfl⟩ := ti_as h
  intro ls H locs hL hP hS
  obtain ⟨q0, hq, hat⟩ := tm_at_WS (ad := ad) (cT := cT) (tm_arr_in ha).1
  have e0 := hat w
  rw [tm_cell_a ha] at e0
  refine va_iast hx hb hK hP (hD.va cT w) hS q0 0 e0 rfl hi hd (fun H1 locs1 hP1 _ hS1 => ?_)
  rw [tm_set_WS (w' := wset w t i.toNatClampNeg x) hq (by rw [tm_cell_a ha, wset_upd]) (fun u hne => wset_ne hne)] at hP1
  exact kk _ rfl ls H1 locs1 hL hP1 hS1
theorem tm_stob (F : tm_Fr p s m args c D ad cT A Ts J) {pc : Nat} {lc : Lc} {st : List AV} {w : Wd} {o : Rs ⊕ Cfg} (hd : decode (tm_cc J) pc = .ok (.bastore, 1)) (h : tm_bas (pc + 1) lc st w = some o) (kk : ∀ c', o = .inr c' → tm_Go p l e R s m args below meth c cells slots Q D ad cT A J c') : tm_Go p l e R s m args below meth c cells slots Q D ad cT A J (pc, lc, st, w) := by
  obtain ⟨hx, hb, hml, hown, hts, hTs, hK, hD⟩ := F
  obtain ⟨x, i, t, r, y, n, rfl, ha, hy, hi, rfl⟩ := ti_bas h
  intro ls H locs hL hP hS
  obtain ⟨q0, hq, hat⟩ := tm_at_WS (ad := ad) (cT := cT) (tm_arr_in ha).1
  have e0 := hat w
  rw [tm_cell_a ha] at e0
  rcases tm_arr_y ha with rfl | rfl | rfl
  · exact absurd rfl hy
  · refine va_zast hx hb hK hP (hD.va cT w) hS q0 1 e0 rfl hi hd (fun H1 locs1 hP1 _ hS1 => ?_)
    rw [tm_set_WS (w' := wset w t i.toNatClampNeg (vp_nar .boolean x)) hq (by rw [tm_cell_a ha, wset_upd]) (fun u hne => wset_ne hne)] at hP1
    exact kk _ rfl ls H1 locs1 hL hP1 hS1
  · refine va_bast hx hb hK hP (hD.va cT w) hS q0 2 e0 rfl hi hd (fun H1 locs1 hP1 _ hS1 => ?_)
    rw [tm_set_WS (w' := wset w t i.toNatClampNeg (vp_nar .byte x)) hq (by rw [tm_cell_a ha, wset_upd]) (fun u hne => wset_ne hne)] at hP1
    exact kk _ rfl ls H1 locs1 hL hP1 hS1
theorem tm_lod (F : tm_Fr p s m args c D ad cT A Ts J) (HS : tm_HS s ad A scr) {pc : Nat} {lc : Lc} {st : List AV} {w : Wd} {o : Rs ⊕ Cfg} (hd : decode (tm_cc J) pc = .ok (.iaload, 1)) (h : tm_al 0 scr (pc + 1) lc st w = some o) (kk : ∀ c', o = .inr c' → tm_Go p l e R s m args below meth c cells slots Q D ad cT A J c') : tm_Go p l e R s m args below meth c cells slots Q D ad cT A J (pc, lc, st, w) := by
  obtain ⟨hx, hb, hml, hown, hts, hTs, hK, hD⟩ := F
  obtain ⟨i, t, r, rfl, ⟨n, ha, hi, rfl⟩ | ⟨rfl, L, xs, hsc, hi, rfl⟩⟩ := ti_al h
  · intro ls H locs hL hP hS
    obtain ⟨q0, hq, hat⟩ := tm_at_WS (ad := ad) (cT := cT) (tm_arr_in ha).1
    have e0 := hat w
    rw [tm_cell_a ha] at e0
    exact va_iald hx hb hK hP q0 0 e0 rfl hi hd (kk _ rfl ls H locs hL hP hS)
  · intro ls H locs hL hP hS
    obtain ⟨hX, hbl, hbA⟩ := HS L xs hsc
    exact va_sld hx hb hX hbl hbA hS hi hd (kk _ rfl ls H locs hL hP hS)
theorem tm_lodb (F : tm_Fr p s m args c D ad cT A Ts J) {pc : Nat} {lc : Lc} {st : List AV} {w : Wd} {o : Rs ⊕ Cfg} (hd : decode (tm_cc J) pc = .ok (.baload, 1)) (h : tm_bal (pc + 1) lc st w = some o) (kk : ∀ c', o = .inr c' → tm_Go p l e R s m args below meth c cells slots Q D ad cT A J c') : tm_Go p l e R s m args below meth c cells slots Q D ad cT A J (pc, lc, st, w) := by
  obtain ⟨hx, hb, hml, hown, hts, hTs, hK, hD⟩ := F
  obtain ⟨i, t, r, y, n, rfl, ha, hy, hi, rfl⟩ := ti_bal h
  intro ls H locs hL hP hS
  obtain ⟨q0, hq, hat⟩ := tm_at_WS (ad := ad) (cT := cT) (tm_arr_in ha).1
  have e0 := hat w
  rw [tm_cell_a ha] at e0
  rcases tm_arr_y ha with rfl | rfl | rfl
  · exact absurd rfl hy
  · exact va_zald hx hb hK hP q0 1 e0 rfl hi hd (kk _ rfl ls H locs hL hP hS)
  · exact va_bald hx hb hK hP q0 2 e0 rfl hi hd (kk _ rfl ls H locs hL hP hS)
theorem tm_lodq (F : tm_Fr p s m args c D ad cT A Ts J) {pc : Nat} {lc : Lc} {st : List AV} {w : Wd} {o : Rs ⊕ Cfg} (hd : decode (tm_cc J) pc = .ok (.aaload, 1)) (h : tm_aal (pc + 1) lc st w = some o) (kk : ∀ c', o = .inr c' → tm_Go p l e R s m args below meth c cells slots Q D ad cT A J c') : tm_Go p l e R s m args below meth c cells slots Q D ad cT A J (pc, lc, st, w) := by
  obtain ⟨hx, hb, hml, hown, hts, hTs, hK, hD⟩ := F
  obtain ⟨i, r, ⟨rfl, hi, rfl⟩ | ⟨rfl, hi, rfl⟩⟩ := ti_aal h
  · intro ls H locs hL hP hS
    obtain ⟨q0, hq, hat⟩ := tm_at_WS (ad := ad) (cT := cT) (tm_all_sg (j := 1) (by decide))
    exact va_aldq hx hb hK hP q0 3 (hat w) rfl hi hd (kk _ rfl ls H locs hL hP hS)
  · intro ls H locs hL hP hS
    obtain ⟨q0, hq, hat⟩ := tm_at_WS (ad := ad) (cT := cT) (tm_all_sg (j := 4) (by decide))
    exact va_aldq hx hb hK hP q0 4 (hat w) rfl hi hd (kk _ rfl ls H locs hL hP hS)
theorem tm_lens (F : tm_Fr p s m args c D ad cT A Ts J) (HS : tm_HS s ad A scr) {pc : Nat} {lc : Lc} {st : List AV} {w : Wd} {o : Rs ⊕ Cfg} (hd : decode (tm_cc J) pc = .ok (.arraylength, 1)) (h : tm_len scr (pc + 1) lc st w = some o) (kk : ∀ c', o = .inr c' → tm_Go p l e R s m args below meth c cells slots Q D ad cT A J c') : tm_Go p l e R s m args below meth c cells slots Q D ad cT A J (pc, lc, st, w) := by
  obtain ⟨hx, hb, hml, hown, hts, hTs, hK, hD⟩ := F
  obtain ⟨t, r, rfl, ⟨y, n, ha, rfl⟩ | ⟨rfl, L, xs, hsc, rfl⟩⟩ := ti_len h
  · intro ls H locs hL hP hS
    obtain ⟨q0, hq, hat⟩ := tm_at_WS (ad := ad) (cT := cT) (tm_arr_in ha).1
    have e0 := hat w
    rw [tm_cell_a ha] at e0
    rcases tm_arr_y ha with rfl | rfl | rfl
    · exact va_alen hx hb hK hP q0 0 e0 (ty := .int) rfl rfl hd (kk _ rfl ls H locs hL hP hS)
    · exact va_alen hx hb hK hP q0 1 e0 (ty := .boolean) rfl rfl hd (kk _ rfl ls H locs hL hP hS)
    · exact va_alen hx hb hK hP q0 2 e0 (ty := .byte) rfl rfl hd (kk _ rfl ls H locs hL hP hS)
  · intro ls H locs hL hP hS
    obtain ⟨hX, hbl, hbA⟩ := HS L xs hsc
    exact va_slen hx hb hX hbl hbA hS hd (kk _ rfl ls H locs hL hP hS)
end
