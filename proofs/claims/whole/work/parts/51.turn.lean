/-! turn, wish -/
theorem CiIs.opn {w : Wd} {k : Fin 6} {c : Nat → Nat} {nr ti o o' sp dy : Nat} {wf : Nat → Nat} (h : CiIs w k c nr ti o sp dy wf) : CiIs (wset w (cit k 0) 12 (nI o')) k c nr ti o' sp dy wf := by
  obtain ⟨h1, ⟨d1, d2, d3, d4, d5, d6⟩, h3⟩ := h
  refine ⟨h1.of (wset_k (by decide)) (wset_k (by decide)) (wset_k (by decide)) (fun p _ _ => wset_ne (cit_p (by omega))), ⟨by rw [wset_k (by decide)]; exact d1, by rw [wset_k (by decide)]; exact d2, wset_s, by rw [wset_k (by decide)]; exact d4, by rw [wset_k (by decide)]; exact d5, fun p hp => by rw [wset_ne (cit_p (by decide))]; exact d6 p hp⟩, ?_⟩
  rcases h3 with z | ⟨mo, z1, z2, z3⟩
  · exact Or.inl (by rw [wset_k (by decide)]; exact z)
  · exact Or.inr ⟨mo, z1, by rw [wset_k (by decide)]; exact z2, z3.of (wset_ne (cit_p (by decide)))⟩
theorem CiIs.wish {w : Wd} {k : Fin 6} {c : Nat → Nat} {nr ti o sp dy p v : Nat} {wf : Nat → Nat} (h : CiIs w k c nr ti o sp dy wf) : CiIs (wset w (cit k 7) p (nI v)) k c nr ti o sp dy (upW wf p v) := by
  obtain ⟨h1, ⟨d1, d2, d3, d4, d5, d6⟩, h3⟩ := h
  refine ⟨h1.of (by rw [wset_ne (cit_p (by decide))]) (by rw [wset_ne (cit_p (by decide))]) (by rw [wset_ne (cit_p (by decide))]) (fun p _ _ => wset_ne (cit_p (by omega))), ⟨by rw [wset_ne (cit_p (by decide))]; exact d1, by rw [wset_ne (cit_p (by decide))]; exact d2, by rw [wset_ne (cit_p (by decide))]; exact d3, by rw [wset_ne (cit_p (by decide))]; exact d4, by rw [wset_ne (cit_p (by decide))]; exact d5, fun q hq => ?_⟩, ?_⟩
  · unfold upW
    by_cases e : q = p
    · subst e
      rw [wset_s, if_pos rfl]
    · rw [wset_k e, if_neg e]
      exact d6 q hq
  · rcases h3 with z | ⟨mo, z1, z2, z3⟩
    · exact Or.inl (by rw [wset_ne (cit_p (by decide))]; exact z)
    · exact Or.inr ⟨mo, z1, by rw [wset_ne (cit_p (by decide))]; exact z2, z3.of (wset_ne (cit_p (by decide)))⟩
theorem m_put {w : Wd} {x v : Int32} {k : Nat} (hb : w (sg 13) 5 = nI 0) (hx : x = nI k) (hk : k < 196) : Cl 1 jM_put [vR (sg 13), vI x, vI v] w (none, wset w (sg 17) k v) := by
  subst hx
  refine Cl.of rfl rfl rfl (lc := [some (vR (sg 13)), some (vI (nI k)), some (vI v)]) rfl ?_
  refine Rn.as 60 (j := k) rfl rfl rfl (by dsimp only; rw [hb, nI_add, Nat.zero_add]) hk ?_
  exact Rn.vr 60 rfl rfl rfl rfl
theorem Mt.opn {w : Wd} {c : Nat → Nat} {nr ti o o' sp dy : Nat} {wf : Nat → Nat} (h : Mt w c nr ti o sp dy wf) : Mt (wset w (sg 17) 6 (nI o')) c nr ti o' sp dy wf := by
  obtain ⟨h0, h1, h2, h3, h4, h5, h6, h7, h8, h9, h10⟩ := h
  simp only [Nat.zero_add] at h2 h3 h4 h5 h6 h7 h8 h9 h10
  refine ⟨by rw [wset_ne (sg_ne (by decide))]; exact h0, ?_⟩
  unfold MaIs
  simp only [Nat.zero_add]
  refine ⟨by rw [wset_k (by decide)]; exact h1, by rw [wset_k (by decide)]; exact h2, by rw [wset_k (by decide)]; exact h3, by rw [wset_k (by decide)]; exact h4, by rw [wset_k (by decide)]; exact h5, by rw [wset_k (by decide)]; exact h6, wset_s, by rw [wset_k (by decide)]; exact h8, fun g hg => ?_, fun p hp => ?_⟩
  · rw [wset_k (by omega), wset_k (by omega)]
    exact h9 g hg
  · rw [wset_k (by omega), wset_k (by omega), wset_k (by omega), wset_k (by omega), wset_k (by omega)]
    exact h10 p hp
theorem Mt.spent {w : Wd} {c : Nat → Nat} {nr ti o sp' sp dy : Nat} {wf : Nat → Nat} (h : Mt w c nr ti o sp dy wf) : Mt (wset w (sg 17) 7 (nI sp')) c nr ti o sp' dy wf := by
  obtain ⟨h0, h1, h2, h3, h4, h5, h6, h7, h8, h9, h10⟩ := h
  simp only [Nat.zero_add] at h2 h3 h4 h5 h6 h7 h8 h9 h10
  refine ⟨by rw [wset_ne (sg_ne (by decide))]; exact h0, ?_⟩
  unfold MaIs
  simp only [Nat.zero_add]
  refine ⟨by rw [wset_k (by decide)]; exact h1, by rw [wset_k (by decide)]; exact h2, by rw [wset_k (by decide)]; exact h3, by rw [wset_k (by decide)]; exact h4, by rw [wset_k (by decide)]; exact h5, by rw [wset_k (by decide)]; exact h6, by rw [wset_k (by decide)]; exact h7, wset_s, fun g hg => ?_, fun p hp => ?_⟩
  · rw [wset_k (by omega), wset_k (by omega)]
    exact h9 g hg
  · rw [wset_k (by omega), wset_k (by omega), wset_k (by omega), wset_k (by omega), wset_k (by omega)]
    exact h10 p hp
theorem Mt.day {w : Wd} {c : Nat → Nat} {nr ti o sp dy' dy : Nat} {wf : Nat → Nat} (h : Mt w c nr ti o sp dy wf) : Mt (wset w (sg 17) 5 (nI dy')) c nr ti o sp dy' wf := by
  obtain ⟨h0, h1, h2, h3, h4, h5, h6, h7, h8, h9, h10⟩ := h
  simp only [Nat.zero_add] at h2 h3 h4 h5 h6 h7 h8 h9 h10
  refine ⟨by rw [wset_ne (sg_ne (by decide))]; exact h0, ?_⟩
  unfold MaIs
  simp only [Nat.zero_add]
  refine ⟨by rw [wset_k (by decide)]; exact h1, by rw [wset_k (by decide)]; exact h2, by rw [wset_k (by decide)]; exact h3, by rw [wset_k (by decide)]; exact h4, by rw [wset_k (by decide)]; exact h5, wset_s, by rw [wset_k (by decide)]; exact h7, by rw [wset_k (by decide)]; exact h8, fun g hg => ?_, fun p hp => ?_⟩
  · rw [wset_k (by omega), wset_k (by omega)]
    exact h9 g hg
  · rw [wset_k (by omega), wset_k (by omega), wset_k (by omega), wset_k (by omega), wset_k (by omega)]
    exact h10 p hp
theorem Mt.wish {w : Wd} {c : Nat → Nat} {nr ti o sp dy p v : Nat} {wf : Nat → Nat} (hc : PlOk c) (h : Mt w c nr ti o sp dy wf) : Mt (wset w (sg 17) (27 + 5 * p) (nI v)) c nr ti o sp dy (upW wf p v) := by
  obtain ⟨h0, h1, h2, h3, h4, h5, h6, h7, h8, h9, h10⟩ := h
  have hc3 := hc.2.1
  simp only [Nat.zero_add] at h2 h3 h4 h5 h6 h7 h8 h9 h10
  refine ⟨by rw [wset_ne (sg_ne (by decide))]; exact h0, ?_⟩
  unfold MaIs
  simp only [Nat.zero_add]
  refine ⟨by rw [wset_k (by omega)]; exact h1, by rw [wset_k (by omega)]; exact h2, by rw [wset_k (by omega)]; exact h3, by rw [wset_k (by omega)]; exact h4, by rw [wset_k (by omega)]; exact h5, by rw [wset_k (by omega)]; exact h6, by rw [wset_k (by omega)]; exact h7, by rw [wset_k (by omega)]; exact h8, fun g hg => ?_, fun q hq => ?_⟩
  · rw [wset_k (by omega), wset_k (by omega)]
    exact h9 g hg
  · obtain ⟨q1, q2, q3, q4, q5⟩ := h10 q hq
    refine ⟨by rw [wset_k (by omega)]; exact q1, by rw [wset_k (by omega)]; exact q2, by rw [wset_k (by omega)]; exact q3, ?_, by rw [wset_k (by omega)]; exact q5⟩
    unfold upW
    by_cases e : q = p
    · subst e
      rw [wset_s, if_pos rfl]
    · rw [wset_k (by omega), if_neg e]
      exact q4
theorem AcM.of {w w' : Wd} {P m : Nat} {S : Nat → Sn} {wf : Nat → Nat} (h : AcM w P m S wf) (e13 : w' (sg 13) 8 = w (sg 13) 8) (e19 : w' (sg 19) = w (sg 19)) : AcM w' P m S wf := ⟨e13.trans h.1, fun i hi => (h.2 i hi).of (fun j _ => by rw [e19])⟩
theorem kpS_ok {c : Nat → Nat} {nr ti o sp dy m : Nat} {wf : Nat → Nat} {S : Nat → Sn} (hm : m ≤ 24) (hok : CtOk c nr ti o sp dy wf) (h : ∀ i, i < m → CtOk c nr ti (S i).1 (S i).2.1 (S i).2.2.1 (S i).2.2.2) : ∀ i, i < kpM m + 1 → CtOk c nr ti (kpS m S (o, sp, dy, wf) i).1 (kpS m S (o, sp, dy, wf) i).2.1 (kpS m S (o, sp, dy, wf) i).2.2.1 (kpS m S (o, sp, dy, wf) i).2.2.2 := by
  intro i hi
  unfold kpS
  by_cases e : i = kpM m
  · rw [if_pos e]
    exact hok
  · rw [if_neg e]
    unfold kpT
    refine h _ ?_
    unfold kpM at hi e
    split <;> split at hi <;> split at e <;> omega
theorem kpW_fr {w : Wd} {m x o sp dy : Nat} {t : TA} (h : ∀ s, 5 ≤ s → s ≤ 9 → t ≠ sg s) : kpW w m x o sp dy t = w t := by
  unfold kpW
  rw [wset_ne (h 5 (by decide) (by decide)), wset_ne (h 5 (by decide) (by decide)), cpW_ne (h 9 (by decide) (by decide)), wset_ne (h 8 (by decide) (by decide)), wset_ne (h 7 (by decide) (by decide)), wset_ne (h 6 (by decide) (by decide))]
theorem kpW_cit {w : Wd} {m x o sp dy : Nat} {k : Fin 6} {p : Nat} : kpW w m x o sp dy (cit k p) = w (cit k p) := kpW_fr (fun s _ _ => cit_sg)
theorem kpW_sg {w : Wd} {m x o sp dy s : Nat} (h : s < 5 ∨ 9 < s) : kpW w m x o sp dy (sg s) = w (sg s) := kpW_fr (fun s' h1 h2 => sg_ne (by omega))
theorem kpW_same {w : Wd} {m x o sp dy n : Nat} (h : n ≠ 5) : Same n w (kpW w m x o sp dy) := fun t j e => by
  rw [kpW_fr (fun s h1 h2 z => by subst z; exact h ((own_acts s h1 h2 j).symm.trans e).symm)]
theorem AFr.same {w w' : Wd} (f : AFr w w') {n : Nat} (h5 : n ≠ 5) : Same n w w' := fun t j e => by
  by_cases h1 : t = sg 13
  · subst h1
    exact f.2 j (fun z => by subst z; exact h5 e.symm)
  · by_cases h2 : t = sg 19
    · subst h2
      exact absurd e.symm h5
    · rw [f.1 t h1 h2]
theorem Mt.afr {w w' : Wd} {c : Nat → Nat} {nr ti o sp dy : Nat} {wf : Nat → Nat} (h : Mt w c nr ti o sp dy wf) (f : AFr w w') : Mt w' c nr ti o sp dy wf := ⟨(f.2 5 (by decide)).trans h.1, h.2.fr (f.1 _ (sg_ne (by decide)) (sg_ne (by decide)))⟩
theorem op_turn {x : Int32} : Op jX_turn jM_turn [vI x] := by
  intro w hi
  obtain ⟨hb, c, nr, ti, o, sp, dy, wf, hok, hci, hma, m, xx, S, hm, hx, hac, ham, hos⟩ := id hi.2.2.2.2.2
  have hM : Mt w c nr ti o sp dy wf := ⟨hb, hma⟩
  have hc := hok.1
  have hd := hok.2.1
  have hc3 := hc.2.1
  have x3 : w (cit 0 0) 3 = nI (c 3) := hci.1.2.1
  rcases pk_or (x := x) (n := c 3) (by omega) with h1 | ⟨g, hg, rfl⟩
  · refine op_same hi (v := -(nI 1000001)) ?_ ?_
    · refine Cl.of rfl rfl rfl (lc := [some (vR (sg 0)), some (vI x)]) rfl ?_
      refine Rn.cs 60 rfl rfl rfl rfl (by rw [x3]; exact x_no (by omega) h1) (by decide) ?_
      refine Rn.if1f 60 rfl rfl (by dsimp only [tm_c2P]; decide) ?_
      exact Rn.ir 60 rfl rfl rfl rfl
    · refine Cl.of rfl rfl rfl (lc := [some (vR (sg 13)), some (vI x)]) rfl ?_
      refine Rn.cv 60 rfl rfl rfl rfl rfl (m_gno hc hM.pl h1) (by decide) ?_
      refine Rn.if1f 60 rfl rfl (by dsimp only [tm_c2P]; decide) ?_
      exact Rn.ir 60 rfl rfl rfl rfl
  obtain ⟨k1, k2⟩ := sp_keep hc hci.2.1 hm hx hac
  have g8 : 2 ^ g < 256 := Nat.lt_of_lt_of_le (Nat.pow_lt_pow_right (by decide) (show g < 8 by omega)) (Nat.le_refl _)
  have o8 : (o ^^^ 2 ^ g) < 256 := Nat.xor_lt_two_pow (n := 8) hd.2.2.1 g8
  have kc : CiIs (kpW w m xx o sp dy) 0 c nr ti o sp dy wf := hci.fr (fun p => kpW_cit)
  have kc2 := kc.opn (o' := o ^^^ 2 ^ g)
  have hM1 : Mt (wset (kpW w m xx o sp dy) (cit 0 0) 12 (nI (o ^^^ 2 ^ g))) c nr ti o sp dy wf := ⟨by rw [wset_ne sg_cit, kpW_sg (by omega)]; exact hb, hma.fr (by rw [wset_ne sg_cit, kpW_sg (by omega)])⟩
  have ham1 : AcM (wset (kpW w m xx o sp dy) (cit 0 0) 12 (nI (o ^^^ 2 ^ g))) (c 4) m S wf := ham.of (by rw [wset_ne sg_cit, kpW_sg (by omega)]) (by rw [wset_ne sg_cit, kpW_sg (by omega)])
  obtain ⟨w2, b1, b2, b3⟩ := m_know (y := -(nI 1000000)) hc hM1 hm ham1 (Or.inl rfl)
  have hM2 := hM1.afr b2
  have hM3 := hM2.opn (o' := o ^^^ 2 ^ g)
  refine ⟨wset (kpW w m xx o sp dy) (cit 0 0) 12 (nI (o ^^^ 2 ^ g)), wset w2 (sg 17) 6 (nI (o ^^^ 2 ^ g)), nI (o ^^^ 2 ^ g) >>> (nI g &&& 31) &&& nI 1, ?_, ?_, ?_⟩
  · refine Cl.of rfl rfl rfl (lc := [some (vR (sg 0)), some (vI (nI g))]) rfl ?_
    refine Rn.cs 60 rfl rfl rfl rfl (by rw [x3]; exact x_yes (by omega) hg) (by decide) ?_
    refine Rn.if1t 60 rfl rfl (by dsimp only [tm_c2P]; decide) ?_
    refine Rn.cv 60 rfl rfl rfl rfl rfl k1 (by decide) ?_
    have e1 : kpW w m xx o sp dy (cit 0 0) 12 ^^^ nI 1 <<< (nI g &&& 31) = nI (o ^^^ 2 ^ g) := by rw [kc.2.1.2.2.1, nJ_1shl (by omega), nJ_xor]
    refine Rn.at 9 (x := (43, [some (vR (sg 0)), some (vI (nI g))], [], wset (kpW w m xx o sp dy) (cit 0 0) 12 (nI (o ^^^ 2 ^ g)))) (by rw [← e1]; rfl) ?_
    refine Rn.ir 60 rfl rfl rfl ?_
    rw [wset_s]
  · refine Cl.of rfl rfl rfl (lc := [some (vR (sg 13)), some (vI (nI g))]) rfl ?_
    refine Rn.cv 60 rfl rfl rfl rfl rfl (m_gyes hc hM1.pl hg) (by decide) ?_
    refine Rn.if1t 60 rfl rfl (by dsimp only [tm_c2P]; decide) ?_
    refine Rn.cv 60 rfl rfl rfl rfl rfl b1 (by decide) ?_
    refine Rn.cv 60 rfl rfl rfl rfl rfl (m_get (k := 6) (v := nI o) hM2.1 rfl (by decide) hM2.2.2.2.2.2.2.2.1) (by decide) ?_
    have e1 : nI o ^^^ nI 1 <<< (nI g &&& 31) = nI (o ^^^ 2 ^ g) := by rw [nJ_1shl (by omega), nJ_xor]
    have pt := m_put (w := w2) (x := nI 6) (v := nI (o ^^^ 2 ^ g)) (k := 6) hM2.1 rfl (by decide)
    refine Rn.cv 60 rfl rfl rfl rfl rfl (by dsimp only; rw [e1]; exact pt) (by decide) ?_
    refine Rn.cv 60 rfl rfl rfl rfl rfl (m_get (k := 6) (v := nI (o ^^^ 2 ^ g)) hM3.1 rfl (by decide) wset_s) (by decide) ?_
    exact Rn.ir 60 rfl rfl rfl rfl
  · have fr2 : ∀ t, t ≠ sg 13 → t ≠ sg 19 → t ≠ sg 17 → wset w2 (sg 17) 6 (nI (o ^^^ 2 ^ g)) t = wset (kpW w m xx o sp dy) (cit 0 0) 12 (nI (o ^^^ 2 ^ g)) t := fun t h1 h2 h3 => by rw [wset_ne h3, b2.1 t h1 h2]
    refine hi.twn ⟨hM3.1, c, nr, ti, o ^^^ 2 ^ g, sp, dy, wf, ⟨hc, ⟨hd.1, hd.2.1, o8, hd.2.2.2.1, hd.2.2.2.2⟩, hok.2.2⟩, kc2.fr (fun p => fr2 _ cit_sg cit_sg cit_sg), hM3.2, kpM m + 1, (xx + 1) % 24, kpS m S (o, sp, dy, wf), by have := kpM_le (m := m); omega, Nat.mod_lt _ (by decide), k2.of (fun s s1 s2 j => by rw [fr2 _ (sg_ne (by omega)) (sg_ne (by omega)) (sg_ne (by omega)), wset_ne sg_cit]), (b3 wf (Or.inl ⟨rfl, fun _ _ => rfl⟩)).of (by rw [wset_ne (sg_ne (by decide))]) (wset_ne (sg_ne (by decide))), kpS_ok hm hok hos⟩ (fun n h5 h9 => ?_)
    refine (((kpW_same h5).tr (Same.set ?_)).tr (b2.same h5)).tr (Same.set ?_)
    all_goals exact fun z => h5 z.symm
theorem op_wish {x y : Int32} : Op jX_wish jM_wish [vI x, vI y] := by
  intro w hi
  obtain ⟨hb, c, nr, ti, o, sp, dy, wf, hok, hci, hma, m, xx, S, hm, hx, hac, ham, hos⟩ := id hi.2.2.2.2.2
  have hM : Mt w c nr ti o sp dy wf := ⟨hb, hma⟩
  have hc := hok.1
  have hd := hok.2.1
  have hc3 := hc.2.1
  have hc4 := hc.2.2.1
  have hp3 : 2 ^ c 3 ≤ 256 := Nat.pow_le_pow_right (n := 2) (by decide) hc3
  have x4 : w (cit 0 0) 4 = nI (c 4) := hci.1.2.2.1
  rcases pk_or (x := x) (n := c 4) (by omega) with h1 | ⟨p, hp, rfl⟩
  · refine op_same hi (v := -(nI 1000001)) ?_ ?_
    · refine Cl.of rfl rfl rfl (lc := [some (vR (sg 0)), some (vI x), some (vI y), none]) rfl ?_
      refine Rn.cs 60 rfl rfl rfl rfl (by rw [x4]; exact x_no (by omega) h1) (by decide) ?_
      refine Rn.if1t 60 rfl rfl (by dsimp only [tm_c2P]; decide) ?_
      exact Rn.ir 60 rfl rfl rfl rfl
    · refine Cl.of rfl rfl rfl (lc := [some (vR (sg 13)), some (vI x), some (vI y), none]) rfl ?_
      refine Rn.cv 60 rfl rfl rfl rfl rfl (m_pno hc hM.pl h1) (by decide) ?_
      refine Rn.if1t 60 rfl rfl (by dsimp only [tm_c2P]; decide) ?_
      exact Rn.ir 60 rfl rfl rfl rfl
  rcases pk_or (x := y) (n := 2 ^ c 3) (by omega) with h1 | ⟨s, hs, rfl⟩
  · refine op_same hi (v := -(nI 1000001)) ?_ ?_
    · refine Cl.of rfl rfl rfl (lc := [some (vR (sg 0)), some (vI (nI p)), some (vI y), none]) rfl ?_
      refine Rn.cs 60 rfl rfl rfl rfl (by rw [x4]; exact x_yes (by omega) hp) (by decide) ?_
      refine Rn.if1f 60 rfl rfl (by dsimp only [tm_c2P]; decide) ?_
      refine Rn.cv 60 rfl rfl rfl rfl rfl (x_wno hc hci.1.2.1 h1) (by decide) ?_
      refine Rn.if1f 60 rfl rfl (by dsimp only [tm_c2P]; decide) ?_
      exact Rn.ir 60 rfl rfl rfl rfl
    · refine Cl.of rfl rfl rfl (lc := [some (vR (sg 13)), some (vI (nI p)), some (vI y), none]) rfl ?_
      refine Rn.cv 60 rfl rfl rfl rfl rfl (m_pyes hc hM.pl hp) (by decide) ?_
      refine Rn.if1f 60 rfl rfl (by dsimp only [tm_c2P]; decide) ?_
      refine Rn.cv 60 rfl rfl rfl rfl rfl (m_wno hc hM.pl h1) (by decide) ?_
      refine Rn.if1f 60 rfl rfl (by dsimp only [tm_c2P]; decide) ?_
      exact Rn.ir 60 rfl rfl rfl rfl
  obtain ⟨k1, k2⟩ := sp_keep hc hci.2.1 hm hx hac
  have kc : CiIs (kpW w m xx o sp dy) 0 c nr ti o sp dy wf := hci.fr (fun p => kpW_cit)
  have kc2 := kc.wish (p := p) (v := s)
  have hM1 : Mt (wset (kpW w m xx o sp dy) (cit 0 7) p (nI s)) c nr ti o sp dy wf := ⟨by rw [wset_ne sg_cit, kpW_sg (by omega)]; exact hb, hma.fr (by rw [wset_ne sg_cit, kpW_sg (by omega)])⟩
  have ham1 : AcM (wset (kpW w m xx o sp dy) (cit 0 7) p (nI s)) (c 4) m S wf := ham.of (by rw [wset_ne sg_cit, kpW_sg (by omega)]) (by rw [wset_ne sg_cit, kpW_sg (by omega)])
  obtain ⟨w2, b1, b2, b3⟩ := m_know (y := nI p) hc hM1 hm ham1 (Or.inr ⟨p, hp, rfl⟩)
  have hM2 := hM1.afr b2
  have hM3 := hM2.wish hc (p := p) (v := s)
  have hdy : DyOk c nr ti o sp (upW wf p s) := hd.up (by omega)
  have kn : knY (c 4) wf (nI p) (upW wf p s) := Or.inr ⟨p, hp, rfl, fun q hq => by
    unfold upW
    by_cases e : q = p
    · rw [if_pos e, e]
    · rw [if_neg e, if_neg e]⟩
  refine ⟨wset (kpW w m xx o sp dy) (cit 0 7) p (nI s), wset w2 (sg 17) (27 + 5 * p) (nI s), nI (wf p), ?_, ?_, ?_⟩
  · refine Cl.of rfl rfl rfl (lc := [some (vR (sg 0)), some (vI (nI p)), some (vI (nI s)), none]) rfl ?_
    refine Rn.cs 60 rfl rfl rfl rfl (by rw [x4]; exact x_yes (by omega) hp) (by decide) ?_
    refine Rn.if1f 60 rfl rfl (by dsimp only [tm_c2P]; decide) ?_
    refine Rn.cv 60 rfl rfl rfl rfl rfl (x_wyes hc hci.1.2.1 hs) (by decide) ?_
    refine Rn.if1t 60 rfl rfl (by dsimp only [tm_c2P]; decide) ?_
    refine Rn.cv 60 rfl rfl rfl rfl rfl k1 (by decide) ?_
    refine Rn.al 60 rfl rfl rfl rfl (by omega) ?_
    rw [kc.2.1.2.2.2.2.2 p hp]
    refine Rn.as 60 rfl rfl rfl rfl (by omega) ?_
    exact Rn.ir 60 rfl rfl rfl rfl
  · refine Cl.of rfl rfl rfl (lc := [some (vR (sg 13)), some (vI (nI p)), some (vI (nI s)), none]) rfl ?_
    refine Rn.cv 60 rfl rfl rfl rfl rfl (m_pyes hc hM1.pl hp) (by decide) ?_
    refine Rn.if1f 60 rfl rfl (by dsimp only [tm_c2P]; decide) ?_
    refine Rn.cv 60 rfl rfl rfl rfl rfl (m_wyes hc hM1.pl hs) (by decide) ?_
    refine Rn.if1t 60 rfl rfl (by dsimp only [tm_c2P]; decide) ?_
    refine Rn.cv 60 rfl rfl rfl rfl rfl b1 (by decide) ?_
    have q10 := (hM2.2.2.2.2.2.2.2.2.2.2 p hp).2.2.2.1
    rw [Nat.zero_add] at q10
    refine Rn.cv 60 rfl rfl rfl rfl rfl (m_pers (p := p) (k := 3) (v := nI (wf p)) hM2.1 (by omega) (by rw [show 24 + 5 * p + 3 = 27 + 5 * p by omega]; exact q10)) (by decide) ?_
    refine Rn.cv 60 rfl rfl rfl rfl rfl (m_put (k := 27 + 5 * p) hM2.1 (by dsimp only; rw [pk_mul, nI_add, nI_add, show 24 + 5 * p + 3 = 27 + 5 * p by omega]) (by omega)) (by decide) ?_
    exact Rn.ir 60 rfl rfl rfl rfl
  · have fr2 : ∀ t, t ≠ sg 13 → t ≠ sg 19 → t ≠ sg 17 → wset w2 (sg 17) (27 + 5 * p) (nI s) t = wset (kpW w m xx o sp dy) (cit 0 7) p (nI s) t := fun t h1 h2 h3 => by rw [wset_ne h3, b2.1 t h1 h2]
    refine hi.twn ⟨hM3.1, c, nr, ti, o, sp, dy, upW wf p s, ⟨hc, hdy, hok.2.2⟩, kc2.fr (fun p => fr2 _ cit_sg cit_sg cit_sg), hM3.2, kpM m + 1, (xx + 1) % 24, kpS m S (o, sp, dy, wf), by have := kpM_le (m := m); omega, Nat.mod_lt _ (by decide), k2.of (fun s s1 s2 j => by rw [fr2 _ (sg_ne (by omega)) (sg_ne (by omega)) (sg_ne (by omega)), wset_ne sg_cit]), (b3 _ kn).of (by rw [wset_ne (sg_ne (by decide))]) (wset_ne (sg_ne (by decide))), kpS_ok hm hok hos⟩ (fun n h5 h9 => ?_)
    refine (((kpW_same h5).tr (Same.set ?_)).tr (b2.same h5)).tr (Same.set ?_)
    · exact fun z => h5 z.symm
    · rw [own_now (by omega)]
      exact fun z => h5 z.symm
