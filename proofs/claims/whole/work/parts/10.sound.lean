/-! calls; every instruction; a whole run; contracts -/
section
variable {p : Program} {l : Launch} {e : Env} {R : Room} {s : State} {m : MethodId} {args : Array Value} {below : List Frame} {meth : Method} {c : Code} {cells slots : Nat} {Q : State → Prop}
variable {D : va_G} {ad : TA → Nat} {cT : Nat → ClassId} {A : Nat → Prop} {Ts : List Jvm.Cond} {J : Nat} {C : CF} {scr : Scr}
theorem tm_mok_of {J : Nat} (h : J < 191) : Jvm.Cond.code (tm_y J) (tm_cc J) (tm_mL J) (tm_rt J) ∈ tm_tbl ∧ (tm_st J = true → Jvm.Cond.static (tm_y J) ∈ tm_tbl) ∧ (tm_st J = false → Jvm.Cond.instanceMethod (tm_y J) ∈ tm_tbl ∧ Jvm.Cond.selects (tm_y J).cls (tm_y J) (tm_y J) ∈ tm_tbl) ∧ Jvm.Cond.initialized (tm_y J).cls ∈ tm_tbl ∧ ((tm_y J).cls ≠ "java/lang/invoke/MethodHandle" ∧ (tm_y J).cls ≠ "java/lang/invoke/VarHandle") ∧ (parseMethodDescriptor (tm_y J).desc).map (fun d => d.parameters.length) = some (tm_na J) ∧ plainName (tm_y J).cls = true ∧ tm_mL J ≤ 20 := by
  have h1 := tm_mok_all h
  unfold tm_mok at h1
  simp only [Bool.and_eq_true, decide_eq_true_eq] at h1
  obtain ⟨⟨⟨⟨⟨⟨⟨a1, a2⟩, a3⟩, a4⟩, a5⟩, a6⟩, a7⟩, a8⟩ := h1
  refine ⟨tm_in_tbl (List.mem_of_getElem? a1) rfl, fun hs => ?_, fun hs => ?_, tm_in_tbl (List.mem_of_getElem? a3) rfl, a4, a5, a6, a7⟩
  · rw [if_pos hs] at a2
    exact tm_in_tbl (List.mem_of_getElem? (of_decide_eq_true a2)) rfl
  · rw [if_neg (by rw [hs]; exact fun z => by cases z)] at a2
    simp only [Bool.and_eq_true, decide_eq_true_eq] at a2
    exact ⟨tm_in_tbl (List.mem_of_getElem? a2.1) rfl, tm_in_tbl (List.mem_of_getElem? a2.2) rfl⟩
theorem tm_callB (F : tm_Fr p s m args c D ad cT A Ts J) {x a b d : Nat} (ha : a < 191) (hl : tm_lk (tm_mc J) x tm_ml = some (a, b)) (hb : tm_na a = b) (h1 : d + 1 ≤ R.frames) (h2 : 60 * d + 40 ≤ R.locals) : CallB R s args (tm_cn (tm_mc J)) x (tm_y a) (tm_cc a) (tm_mL a) (tm_rt a) (tm_ws a) (tm_room d) 0 0 b := by
  obtain ⟨hx, hbc, hml, hown, hts, hTs, hK, hD⟩ := F
  obtain ⟨b1, b2, b3, b4, b5, b6, b7, b8⟩ := tm_mok_of ha
  have hG : GoodIn Ts (tm_ws a) := by
    intro w hw
    unfold tm_ws at hw
    rcases List.mem_cons.mp hw with rfl | hw
    · exact tm_good hTs _ b1
    · exact tm_good hTs _ hw
  have hlk := hts _ (hTs _ (tm_ml_in hl))
  have hmn : tm_mn a = tm_y a := by
    unfold tm_mn
    rw [if_neg (by omega), if_neg (by omega), if_neg (by omega)]
  rw [hmn] at hlk
  refine callB_of b hts hG rfl rfl rfl (hts _ (hTs _ b4)) hlk ⟨b5.1, b5.2, by rw [b6, hb]⟩ ⟨h1, ?_⟩
  show 8 + (tm_mL a + 11) + 60 * d ≤ R.locals
  omega
theorem tm_blind (as : List Value) (w : Wd) : FrameBlind (va_Pc as (tm_P D ad cT w)) := by
  intro a U g mk q
  obtain ⟨h1, h2, h3⟩ := q
  exact ⟨h1, h2, va_K.moved (u := U) (U := U.calling g mk a) (Vm.Alike.refl U.vm) h3⟩
theorem tm_ivv (F : tm_Fr p s m args c D ad cT A Ts J) (HC : tm_HC l R D ad cT C) (hcs : cells ≤ R.cells ∧ slots ≤ R.slots) {pc x a b : Nat} {lc : Lc} {st : List AV} {w : Wd} {o : Rs ⊕ Cfg} (hd : decode (tm_cc J) pc = .ok (.invokevirtual x, 3)) (hl : tm_lk (tm_mc J) x tm_ml = some (a, b)) (hst : tm_st a = false) (ha : a < 191) (hna : tm_na a = b) (h : tm_cv C a b (pc + 3) lc st w = some o) (kk : ∀ c', o = .inr c' → tm_Go p l e R s m args below meth c cells slots Q D ad cT A J c') : tm_Go p l e R s m args below meth c cells slots Q D ad cT A J (pc, lc, st, w) := by
  obtain ⟨t, as, r, v, w', rfl, hlen, hob, hrl, hC, rfl⟩ := ti_cv h
  obtain ⟨d, h1, h2, hM⟩ := (HC a _ _ _ hC).1 ha
  have hA := tm_A_of F
  have hB := tm_callB (R := R) F ha hl hna h1 h2
  obtain ⟨hx, hbc, hml, hown, hts, hTs, hK, hD⟩ := F
  obtain ⟨b1, b2, b3, b4, b5, b6, b7, b8⟩ := tm_mok_of ha
  intro ls H locs hL hP hS
  have hP : va_P D tm_cl (tm_WS ad cT w) H := hP
  have h8 : tm_obj t < 8 := by
    rcases Nat.lt_or_ge (tm_obj t) 8 with z | z
    · exact z
    · exfalso
      have hm : ∀ J : Nat, J < 191 → tm_st J = false → tm_mc J < 8 := by decide +kernel
      have := hm a ha hst
      omega
  obtain ⟨q0, hq, hat⟩ := tm_at_WS (ad := ad) (cT := cT) (tm_obj_in h8)
  have e0 := hat w
  rw [tm_cell_o h8] at e0
  have hrec := va_recv hK hP (tm_cls h8) e0
  have hcn : (tm_y a).cls = tm_cn (tm_obj t) := by rw [hob]; rfl
  have hstk : ((as.reverse ++ .inr t :: r).map (tm_v ad)) = (as.map (tm_v ad)).reverse ++ .ref (ad t) :: r.map (tm_v ad) := by
    rw [List.map_append, List.map_cons, List.map_reverse]
    rfl
  have hrun : va_Run p l e R s m args below meth c H locs cells slots 0 0 (F0 m pc ls ((as.reverse ++ .inr t :: r).map (tm_v ad))) (r.map (tm_v ad)) (tm_Q D ad cT (v, w') (Value.ref (ad t) :: as.map (tm_v ad)).toArray) (tm_A ad) :=
    va_runV (own := tm_cn (tm_mc J)) (C := tm_cn (tm_obj t)) (b := ad t) (As := as.map (tm_v ad)) (nL := tm_mL J) (n := b) ⟨hx, hbc, hml, hown, hts⟩ hM ⟨hB, hts _ (hTs _ (b3 hst).1), by rw [← hcn]; exact hts _ (hTs _ (b3 hst).2)⟩
      ⟨tm_blind _ _, hrec, fun U hU hW => ⟨rfl, by rw [hU]; exact hP, va_K.moved hW.alike hK⟩⟩ rfl (by rw [List.length_map]; exact hlen) hL.2.1 hstk (by rw [tm_cat_sum]; show 2 * 0 + _ ≤ 8; omega) hd ⟨hcs.1, hcs.2⟩
  refine tm_call hrun hS hA (fun H1 locs1 hP1 hS1 => ?_)
  have e1 : ((v.map (tm_v ad)).toList ++ r.map (tm_v ad)) = (v.toList ++ r).map (tm_v ad) := by cases v <;> simp
  show W p l e R s m args below meth c H1 locs1 cells slots Q (F0 m (pc + 3) ls ((v.map (tm_v ad)).toList ++ r.map (tm_v ad)))
  rw [e1]
  exact kk _ rfl ls H1 locs1 hL hP1 hS1
theorem tm_ivs (F : tm_Fr p s m args c D ad cT A Ts J) (HC : tm_HC l R D ad cT C) (hcs : cells ≤ R.cells ∧ slots ≤ R.slots) {pc x a b : Nat} {lc : Lc} {st : List AV} {w : Wd} {o : Rs ⊕ Cfg} (hd : decode (tm_cc J) pc = .ok (.invokestatic x, 3)) (hl : tm_lk (tm_mc J) x tm_ml = some (a, b)) (hst : tm_st a = true) (ha : a < 191) (hna : tm_na a = b) (h : tm_cs C a b (pc + 3) lc st w = some o) (kk : ∀ c', o = .inr c' → tm_Go p l e R s m args below meth c cells slots Q D ad cT A J c') : tm_Go p l e R s m args below meth c cells slots Q D ad cT A J (pc, lc, st, w) := by
  obtain ⟨as, r, v, w', rfl, hlen, hrl, hC, rfl⟩ := ti_cs h
  obtain ⟨d, h1, h2, hM⟩ := (HC a _ _ _ hC).1 ha
  have hA := tm_A_of F
  have hB := tm_callB (R := R) F ha hl hna h1 h2
  obtain ⟨hx, hbc, hml, hown, hts, hTs, hK, hD⟩ := F
  obtain ⟨b1, b2, b3, b4, b5, b6, b7, b8⟩ := tm_mok_of ha
  intro ls H locs hL hP hS
  have hP : va_P D tm_cl (tm_WS ad cT w) H := hP
  have hstk : ((as.reverse ++ r).map (tm_v ad)) = (as.map (tm_v ad)).reverse ++ r.map (tm_v ad) := by
    rw [List.map_append, List.map_reverse]
  have hrun : va_Run p l e R s m args below meth c H locs cells slots 0 0 (F0 m pc ls ((as.reverse ++ r).map (tm_v ad))) (r.map (tm_v ad)) (tm_Q D ad cT (v, w') (as.map (tm_v ad)).toArray) (tm_A ad) :=
    va_runS (own := tm_cn (tm_mc J)) (As := as.map (tm_v ad)) (nL := tm_mL J) (n := b) ⟨hx, hbc, hml, hown, hts⟩ hM ⟨hB, hts _ (hTs _ (b2 hst))⟩
      ⟨tm_blind _ _, fun U hU hW => ⟨rfl, by rw [hU]; exact hP, va_K.moved hW.alike hK⟩⟩ rfl (by rw [List.length_map]; exact hlen) hL.2.1 hstk (by rw [tm_cat_sum]; show 2 * 0 + _ ≤ 8; omega) hd ⟨hcs.1, hcs.2⟩
  refine tm_call hrun hS hA (fun H1 locs1 hP1 hS1 => ?_)
  have e1 : ((v.map (tm_v ad)).toList ++ r.map (tm_v ad)) = (v.toList ++ r).map (tm_v ad) := by cases v <;> simp
  show W p l e R s m args below meth c H1 locs1 cells slots Q (F0 m (pc + 3) ls ((v.map (tm_v ad)).toList ++ r.map (tm_v ad)))
  rw [e1]
  exact kk _ rfl ls H1 locs1 hL hP1 hS1
theorem tm_w (F : tm_Fr p s m args c D ad cT A Ts J) {w : Jvm.Cond} (h : w ∈ lw_tbl) (g : goodWord w = true) : w.before args s = true := F.2.2.2.2.1 _ (F.2.2.2.2.2.1 _ (tm_in_tbl h g))
theorem tm_ivj (F : tm_Fr p s m args c D ad cT A Ts J) (HC : tm_HC l R D ad cT C) (hcs : cells ≤ R.cells ∧ slots ≤ R.slots) {pc x a b : Nat} {lc : Lc} {st : List AV} {w : Wd} {o : Rs ⊕ Cfg} (hd : decode (tm_cc J) pc = .ok (.invokestatic x, 3)) (hl : tm_lk (tm_mc J) x tm_ml = some (a, b)) (ha : a = 999 ∨ a = 997 ∨ a = 996) (h : tm_cs C a b (pc + 3) lc st w = some o) (kk : ∀ c', o = .inr c' → tm_Go p l e R s m args below meth c cells slots Q D ad cT A J c') : tm_Go p l e R s m args below meth c cells slots Q D ad cT A J (pc, lc, st, w) := by
  obtain ⟨as, r, v, w', rfl, hlen, hrl, hC, rfl⟩ := ti_cs h
  obtain ⟨hj, h1, h2⟩ := (HC a _ _ _ hC).2 (by omega)
  have hlk := F.2.2.2.2.1 _ (F.2.2.2.2.2.1 _ (tm_ml_in hl))
  have hx := F.1
  have hb := F.2.1
  have hml := F.2.2.1
  have hown := F.2.2.2.1
  have hK := F.2.2.2.2.2.2.1
  have hD := F.2.2.2.2.2.2.2
  intro ls H locs hL hP hS
  have hP : va_P D tm_cl (tm_WS ad cT w) H := hP
  have hls : c.maxLocals = ls.size := hml.trans hL.2.1.symm
  have hsum := tm_cat_sum ad r
  rcases ha with rfl | rfl | rfl
  · obtain ⟨s0, sp, d0, dp, n, n0, n1, rfl, q0, q1, ⟨c1, c2, c3, c4, c5⟩, e⟩ := ti_cpy hj
    cases e
    obtain ⟨p0, -, hat0⟩ := tm_at_WS (ad := ad) (cT := cT) (tm_arr_in q0).1
    obtain ⟨p1, hp1, hat1⟩ := tm_at_WS (ad := ad) (cT := cT) (tm_arr_in q1).1
    have e0 := hat0 w
    have e1 := hat1 w
    rw [tm_cell_a q0] at e0
    rw [tm_cell_a q1] at e1
    have hnat : nativeFrameWords "java/lang/System" "arraycopy" 5 = 7 := by decide
    refine va_copyi hx hb hls hown hlk (tm_w F tm_w_cpy_n rfl) (tm_w F tm_w_cpy_s rfl) (tm_w F tm_w_sys_i rfl) hK hP (hD.va cT w) hS p0 p1 0 0 e0 e1 rfl rfl rfl c1 c2 c3 c4 c5 (fun _ _ => rfl) h1 (by show ((r.map (tm_v ad)).map fun v => v.category).sum + _ ≤ _; rw [hsum, hnat]; omega) hd (fun H1 locs1 hP1 _ hS1 => ?_)
    have hP1 : va_P D tm_cl ((tm_WS ad cT w).set p1 (ad d0, .inl (cT 0, n1, .inl (va_cpy (w s0) (w d0) sp.toNatClampNeg dp.toNatClampNeg n.toNatClampNeg)))) H1 := hP1
    rw [tm_set_WS (w' := fun t k => if t = d0 then va_cpy (w s0) (w d0) sp.toNatClampNeg dp.toNatClampNeg n.toNatClampNeg k else w t k) hp1 (by rw [tm_cell_a q1]; simp) (fun u hne => by funext k; simp [hne])] at hP1
    exact kk _ rfl ls H1 locs1 hL hP1 hS1
  · obtain ⟨y, z, rfl, e⟩ := ti_max hj
    cases e
    exact va_mmax hx hb hls hown hlk (tm_w F tm_w_max_s rfl) (tm_w F tm_w_math_i rfl) (tm_w F tm_w_max_c rfl) h1 (by show ((r.map (tm_v ad)).map fun v => v.category).sum + 13 ≤ _; rw [hsum]; omega) hcs.1 hcs.2 hd (kk _ rfl ls H locs hL hP hS)
  · obtain ⟨y, z, rfl, e⟩ := ti_min hj
    cases e
    exact va_mmin hx hb hls hown hlk (tm_w F tm_w_min_s rfl) (tm_w F tm_w_math_i rfl) (tm_w F tm_w_min_c rfl) h1 (by show ((r.map (tm_v ad)).map fun v => v.category).sum + 13 ≤ _; rw [hsum]; omega) hcs.1 hcs.2 hd (kk _ rfl ls H locs hL hP hS)
theorem tm_b1 (F : tm_Fr p s m args c D ad cT A Ts J) {pc a : Nat} {q : ClassFile.Cond} {off : Int} {lc : Lc} {st : List AV} {w : Wd} {o : Rs ⊕ Cfg} (hd : decode (tm_cc J) pc = .ok (.ifCond q off, 3)) (ht : (pc : Int) + off = (a : Int)) (h : tm_br1 q a (pc + 3) lc st w = some o) (kk : ∀ c', o = .inr c' → tm_Go p l e R s m args below meth c cells slots Q D ad cT A J c') : tm_Go p l e R s m args below meth c cells slots Q D ad cT A J (pc, lc, st, w) := by
  obtain ⟨x, r, rfl, rfl⟩ := ti_br1 h
  have hx := F.1
  have hb := F.2.1
  intro ls H locs hL hP hS
  have k := kk _ rfl ls H locs hL hP hS
  have kt : tm_c2 q x 0 = true → W p l e R s m args below meth c H locs cells slots Q (F0 m a ls (r.map (tm_v ad))) := fun z => by rw [z] at k; exact k
  have kf : tm_c2 q x 0 = false → W p l e R s m args below meth c H locs cells slots Q (F0 m (pc + 3) ls (r.map (tm_v ad))) := fun z => by rw [z] at k; exact k
  cases q
  · exact lv_if_eq hx hb hd ht (fun z => kt (by simp [tm_c2, z])) (fun z => kf (by simp [tm_c2, z]))
  · exact lv_if_ne hx hb hd ht (fun z => kt (by simp [tm_c2, z])) (fun z => kf (by simp [tm_c2, z]))
  · exact lv_if_lt hx hb hd ht (fun z => kt (by simpa [tm_c2] using z)) (fun z => kf (by simpa [tm_c2] using z))
  · exact lv_if_ge hx hb hd ht (fun z => kt (by simpa [tm_c2] using z)) (fun z => kf (by simpa [tm_c2] using z))
  · exact lv_if_gt hx hb hd ht (fun z => kt (by simpa [tm_c2] using z)) (fun z => kf (by simpa [tm_c2] using z))
  · exact lv_if_le hx hb hd ht (fun z => kt (by simpa [tm_c2] using z)) (fun z => kf (by simpa [tm_c2] using z))
theorem tm_b2 (F : tm_Fr p s m args c D ad cT A Ts J) {pc a : Nat} {q : ClassFile.Cond} {off : Int} {lc : Lc} {st : List AV} {w : Wd} {o : Rs ⊕ Cfg} (hd : decode (tm_cc J) pc = .ok (.if_icmp q off, 3)) (ht : (pc : Int) + off = (a : Int)) (h : tm_br2 q a (pc + 3) lc st w = some o) (kk : ∀ c', o = .inr c' → tm_Go p l e R s m args below meth c cells slots Q D ad cT A J c') : tm_Go p l e R s m args below meth c cells slots Q D ad cT A J (pc, lc, st, w) := by
  obtain ⟨x, y, r, rfl, rfl⟩ := ti_br2 h
  have hx := F.1
  have hb := F.2.1
  intro ls H locs hL hP hS
  have k := kk _ rfl ls H locs hL hP hS
  have kt : tm_c2 q x y = true → W p l e R s m args below meth c H locs cells slots Q (F0 m a ls (r.map (tm_v ad))) := fun z => by rw [z] at k; exact k
  have kf : tm_c2 q x y = false → W p l e R s m args below meth c H locs cells slots Q (F0 m (pc + 3) ls (r.map (tm_v ad))) := fun z => by rw [z] at k; exact k
  cases q
  · exact lv_icmp_eq hx hb hd ht (fun z => kt (by simp [tm_c2, z])) (fun z => kf (by simp [tm_c2, z]))
  · exact lv_icmp_ne hx hb hd ht (fun z => kt (by simp [tm_c2, z])) (fun z => kf (by simp [tm_c2, z]))
  · exact lv_icmp_lt hx hb hd ht (fun z => kt (by simpa [tm_c2] using z)) (fun z => kf (by simpa [tm_c2] using z))
  · exact lv_icmp_ge hx hb hd ht (fun z => kt (by simpa [tm_c2] using z)) (fun z => kf (by simpa [tm_c2] using z))
  · exact lv_icmp_gt hx hb hd ht (fun z => kt (by simpa [tm_c2] using z)) (fun z => kf (by simpa [tm_c2] using z))
  · exact lv_icmp_le hx hb hd ht (fun z => kt (by simpa [tm_c2] using z)) (fun z => kf (by simpa [tm_c2] using z))
end
