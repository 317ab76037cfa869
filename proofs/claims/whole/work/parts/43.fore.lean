/-! foretold, asked of both: ahead, won, kept -/
theorem Inv.seer {w w' : Wd} (hi : Inv w) (f : FrR w w') : Inv w' := hi.same (fun n hn => Same.seer f (by omega))
theorem TwnI.now {w : Wd} {c : Nat → Nat} {nr ti o sp dy : Nat} {wf : Nat → Nat} (h : CiIs w 0 c nr ti o sp dy wf) : Now w c nr ti o sp dy wf := ⟨h.1, h.2.1⟩
theorem Mt.seer {w w' : Wd} {c : Nat → Nat} {nr ti o sp dy : Nat} {wf : Nat → Nat} (h : Mt w c nr ti o sp dy wf) (f : FrR w w') : Mt w' c nr ti o sp dy wf := ⟨by rw [f _ (fun p => sg_cit) (fun p => sg_cit) (by decide)]; exact h.1, h.2.fr (f _ (fun p => sg_cit) (fun p => sg_cit) (by decide))⟩
theorem x_there {w : Wd} {c : Nat → Nat} {nr ti o sp dy : Nat} {wf : Nat → Nat} (hc : PlOk c) (h : CiIs w 0 c nr ti o sp dy wf) : Cl 1 jC_isThere [vR (cit 0 0)] w (some (vI (bI (decide (0 < c 0)))), w) := sp_isThere h.1.1 (by have := hc.1; omega)
theorem op_ahead {x y : Int32} : Op jX_ahead jM_ahead [vI x, vI y] := by
  intro w hi
  obtain ⟨hb, c, nr, ti, o, sp, dy, wf, hok, hci, hma, hact⟩ := id hi.2.2.2.2.2
  have hM : Mt w c nr ti o sp dy wf := ⟨hb, hma⟩
  have hc := hok.1
  have hc0 := hc.1
  by_cases h0 : 0 < c 0
  · have cx : ∀ {r0 : Rs}, Rn none 19 jX_ahead (13, [some (vR (sg 0)), some (vI x), some (vI y), none], [], w) r0 → Cl 20 jX_ahead [vR (sg 0), vI x, vI y] w r0 := by
      intro r0 k
      refine Cl.of rfl rfl rfl (lc := [some (vR (sg 0)), some (vI x), some (vI y), none]) rfl ?_
      refine Rn.cv 60 rfl rfl rfl rfl rfl (x_there hc hci) (by decide) ?_
      rw [decide_eq_true h0]
      exact Rn.if1t 60 rfl rfl (by dsimp only [tm_c2P]; decide) k
    have cm : ∀ {w : Wd} {r0 : Rs}, Mt w c nr ti o sp dy wf → Rn none 19 jM_ahead (10, [some (vR (sg 13)), some (vI x), some (vI y)], [], w) r0 → Cl 20 jM_ahead [vR (sg 13), vI x, vI y] w r0 := by
      intro w r0 hM k
      refine Cl.of rfl rfl rfl (lc := [some (vR (sg 13)), some (vI x), some (vI y)]) rfl ?_
      refine Rn.cv 60 rfl rfl rfl rfl rfl (m_hasCity hc hM.pl) (by decide) ?_
      rw [decide_eq_true h0]
      exact Rn.if1t 60 rfl rfl (by dsimp only [tm_c2P]; decide) k
    rcases pk_or (x := x) (n := 61) (by omega) with h1 | ⟨n, hn, rfl⟩
    · refine op_same hi (v := -(nI 1000001)) (cx ?_) (cm hM ?_)
      · refine Rn.if1 60 rfl rfl (fun _ => Rn.ir 60 rfl rfl rfl rfl) (fun h2 => ?_)
        refine Rn.if2t 60 rfl rfl (nI_lt1 (n := 60) (by decide) (h1.resolve_left h2)) ?_
        exact Rn.ir 60 rfl rfl rfl rfl
      · refine Rn.cs 60 rfl rfl rfl rfl (m_no (n := 60) (by decide) h1) (by decide) ?_
        refine Rn.if1t 60 rfl rfl (by dsimp only [tm_c2P]; decide) ?_
        exact Rn.ir 60 rfl rfl rfl rfl
    have dx : ∀ {r0 : Rs}, Rn none 19 jX_ahead (23, [some (vR (sg 0)), some (vI (nI n)), some (vI y), none], [], w) r0 → Cl 20 jX_ahead [vR (sg 0), vI (nI n), vI y] w r0 := by
      intro r0 k
      refine cx ?_
      refine Rn.if1f 60 rfl rfl (nI_pos (by omega)) ?_
      exact Rn.if2f 60 rfl rfl (nI_nlt (by omega) (by omega)) k
    have dm : ∀ {w : Wd} {r0 : Rs}, Mt w c nr ti o sp dy wf → Rn none 19 jM_ahead (20, [some (vR (sg 13)), some (vI (nI n)), some (vI y)], [], w) r0 → Cl 20 jM_ahead [vR (sg 13), vI (nI n), vI y] w r0 := by
      intro w r0 hM k
      refine cm hM ?_
      refine Rn.cs 60 rfl rfl rfl rfl (m_yes (n := 60) (by decide) (by omega)) (by decide) ?_
      exact Rn.if1f 60 rfl rfl (by dsimp only [tm_c2P]; decide) k
    rcases pk_or (x := y) (n := 3) (by omega) with h1 | ⟨k, hk, rfl⟩
    · refine op_same hi (v := -(nI 1000001)) (dx ?_) (dm hM ?_)
      · refine Rn.if1 60 rfl rfl (fun _ => Rn.ir 60 rfl rfl rfl rfl) (fun h2 => ?_)
        refine Rn.if2f 60 rfl rfl (Int32.not_le.mpr (nI_lt1 (n := 2) (by decide) (h1.resolve_left h2))) ?_
        exact Rn.ir 60 rfl rfl rfl rfl
      · refine Rn.cs 60 rfl rfl rfl rfl (m_no (n := 2) (by decide) h1) (by decide) ?_
        refine Rn.if1f 60 rfl rfl (by dsimp only [tm_c2P]; decide) ?_
        exact Rn.ir 60 rfl rfl rfl rfl
    obtain ⟨w1, f1, f2, f3, f4⟩ := sp_behind hc (TwnI.now hci) hok.2.1 (n := n) (by omega)
    have hM1 := hM.seer (FrR.o4 f2)
    obtain ⟨w2, b1, b2, b3⟩ := m_begin hc hM1.1 hM1.2
    have hM2 := hM1.mfr b2
    obtain ⟨w3, d1, d2, d3, d4⟩ := m_dawnMany hc hM2.pl b3 hok.2.1 (n := n) (by omega)
    have hM3 := hM2.mfr d2
    have o8 := f4.2.2.1
    have hi3 := (hi.seer (FrR.o4 f2)).mfr (b2.tr d2)
    have ex : ∀ {r0 : Rs}, Rn none 19 jX_ahead (48, [some (vR (sg 0)), some (vI (nI n)), some (vI (nI k)), some (vR (cit 4 0))], [], w1) r0 → Cl 20 jX_ahead [vR (sg 0), vI (nI n), vI (nI k)] w r0 := by
      intro r0 kk
      refine dx ?_
      refine Rn.if1f 60 rfl rfl (nI_pos (by omega)) ?_
      refine Rn.if2t 60 rfl rfl (nI_le (by omega) (by decide)) ?_
      refine Rn.cv 60 rfl rfl rfl rfl rfl f1 (by decide) ?_
      exact Rn.at 1 rfl kk
    have em : ∀ {r0 : Rs}, Rn none 19 jM_ahead (41, [some (vR (sg 13)), some (vI (nI n)), some (vI (nI k))], [], w3) r0 → Cl 20 jM_ahead [vR (sg 13), vI (nI n), vI (nI k)] w1 r0 := by
      intro r0 kk
      refine dm hM1 ?_
      refine Rn.cs 60 rfl rfl rfl rfl (m_yes (n := 2) (by decide) (by omega)) (by decide) ?_
      refine Rn.if1t 60 rfl rfl (by dsimp only [tm_c2P]; decide) ?_
      refine Rn.cv 60 rfl rfl rfl rfl rfl b1 (by decide) ?_
      exact Rn.cv 60 rfl rfl rfl rfl rfl d1 (by decide) kk
    rcases (by omega : k = 0 ∨ k = 1 ∨ k = 2) with rfl | rfl | rfl
    · refine ⟨w1, w3, _, ex (r0 := (some (vI (nI (daI c nr ti wf n (o, sp)).1)), w1)) ?_, em ?_, hi3⟩
      · refine Rn.lsw 60 (t := 76) rfl rfl rfl ?_
        refine Rn.ir 60 rfl rfl rfl ?_
        rw [f3.2.1.2.2.1]
      · refine Rn.if1f 60 rfl rfl (by dsimp only [tm_c2P]; decide) ?_
        refine Rn.ir 60 rfl rfl rfl ?_
        rw [d3.1]
    · refine ⟨w1, w3, _, ex (r0 := (some (vI (nI (bs (wd c (daI c nr ti wf n (o, sp)).1) (c 4)))), w1)) ?_, em ?_, hi3⟩
      · refine Rn.lsw 60 (t := 81) rfl rfl rfl ?_
        refine Rn.cv 60 rfl rfl rfl rfl rfl (sp_walledIn hc f3.1 f3.2.1.2.2.1 o8) (by decide) ?_
        exact Rn.ir 60 rfl rfl rfl rfl
      · refine Rn.if1t 60 rfl rfl (by dsimp only [tm_c2P]; decide) ?_
        refine Rn.if2f 60 rfl rfl (by dsimp only [tm_c2P]; decide) ?_
        have hw := m_walledBy hc hM3.pl o8
        rw [← d3.1] at hw
        refine Rn.cv 60 rfl rfl rfl rfl rfl hw (by decide) ?_
        exact Rn.ir 60 rfl rfl rfl rfl
    · refine ⟨w1, w3, _, ex (r0 := (some (vI (nI (bs (gl c (daI c nr ti wf n (o, sp)).1) (c 4)))), w1)) ?_, em ?_, hi3⟩
      · refine Rn.lsw 60 (t := 86) rfl rfl rfl ?_
        refine Rn.cv 60 rfl rfl rfl rfl rfl (sp_glad hc f3.1 f3.2.1.2.2.1 o8) (by decide) ?_
        exact Rn.ir 60 rfl rfl rfl rfl
      · refine Rn.if1t 60 rfl rfl (by dsimp only [tm_c2P]; decide) ?_
        refine Rn.if2t 60 rfl rfl (by dsimp only [tm_c2P]; decide) ?_
        have hw := m_gladBy hc hM3.pl o8
        rw [← d3.1] at hw
        refine Rn.cv 60 rfl rfl rfl rfl rfl hw (by decide) ?_
        exact Rn.ir 60 rfl rfl rfl rfl
  · refine op_same hi (v := -(nI 1000002)) ?_ ?_
    · refine Cl.of rfl rfl rfl (lc := [some (vR (sg 0)), some (vI x), some (vI y), none]) rfl ?_
      refine Rn.cv 60 rfl rfl rfl rfl rfl (x_there hc hci) (by decide) ?_
      rw [decide_eq_false h0]
      refine Rn.if1f 60 rfl rfl (by dsimp only [tm_c2P]; decide) ?_
      exact Rn.ir 60 rfl rfl rfl rfl
    · refine Cl.of rfl rfl rfl (lc := [some (vR (sg 13)), some (vI x), some (vI y)]) rfl ?_
      refine Rn.cv 60 rfl rfl rfl rfl rfl (m_hasCity hc hM.pl) (by decide) ?_
      rw [decide_eq_false h0]
      refine Rn.if1f 60 rfl rfl (by dsimp only [tm_c2P]; decide) ?_
      exact Rn.ir 60 rfl rfl rfl rfl
theorem feN_lt {t : Nat → Bool} : ∀ n s a f, feN t n s a = some f → (∀ f, a = some f → f < s + n) → f < s + n
  | 0, s, a, f, h, ha => ha f h
  | n + 1, s, a, f, h, ha => by
    unfold feN at h
    have := feN_lt n (s + 1) _ f h (fun f hf => by
      split at hf
      · cases hf
        omega
      · have := ha f hf
        omega)
    omega
theorem op_won {x y z : Int32} : Op jX_won jM_won [vI x, vI y, vI z] := by
  intro w hi
  obtain ⟨hb, c, nr, ti, o, sp, dy, wf, hok, hci, hma, hact⟩ := id hi.2.2.2.2.2
  have hM : Mt w c nr ti o sp dy wf := ⟨hb, hma⟩
  have hc := hok.1
  have hc3 := hc.2.1
  have hc4 := hc.2.2.1
  have hp4 : 2 ^ c 4 ≤ 32 := Nat.pow_le_pow_right (n := 2) (by decide) hc4
  have x3 : w (cit 0 0) 3 = nI (c 3) := hci.1.2.1
  rcases pk_or (x := x) (n := c 3) (by omega) with h1 | ⟨g, hg, rfl⟩
  · refine op_same hi (v := -(nI 1000001)) ?_ ?_
    · refine Cl.of rfl rfl rfl (lc := [some (vR (sg 0)), some (vI x), some (vI y), some (vI z)]) rfl ?_
      refine Rn.cs 60 rfl rfl rfl rfl (by rw [x3]; exact x_no (by omega) h1) (by decide) ?_
      refine Rn.if1t 60 rfl rfl (by dsimp only [tm_c2P]; decide) ?_
      exact Rn.ir 60 rfl rfl rfl rfl
    · refine Cl.of rfl rfl rfl (lc := [some (vR (sg 13)), some (vI x), some (vI y), some (vI z)]) rfl ?_
      refine Rn.cv 60 rfl rfl rfl rfl rfl (m_gno hc hM.pl h1) (by decide) ?_
      refine Rn.if1t 60 rfl rfl (by dsimp only [tm_c2P]; decide) ?_
      exact Rn.ir 60 rfl rfl rfl rfl
  have cx : ∀ {r0 : Rs}, Rn none 19 jX_won (14, [some (vR (sg 0)), some (vI (nI g)), some (vI y), some (vI z)], [], w) r0 → Cl 20 jX_won [vR (sg 0), vI (nI g), vI y, vI z] w r0 := by
    intro r0 k
    refine Cl.of rfl rfl rfl (lc := [some (vR (sg 0)), some (vI (nI g)), some (vI y), some (vI z)]) rfl ?_
    refine Rn.cs 60 rfl rfl rfl rfl (by rw [x3]; exact x_yes (by omega) hg) (by decide) ?_
    exact Rn.if1f 60 rfl rfl (by dsimp only [tm_c2P]; decide) k
  have cm : ∀ {w : Wd} {r0 : Rs}, Mt w c nr ti o sp dy wf → Rn none 19 jM_won (8, [some (vR (sg 13)), some (vI (nI g)), some (vI y), some (vI z)], [], w) r0 → Cl 20 jM_won [vR (sg 13), vI (nI g), vI y, vI z] w r0 := by
    intro w r0 hM k
    refine Cl.of rfl rfl rfl (lc := [some (vR (sg 13)), some (vI (nI g)), some (vI y), some (vI z)]) rfl ?_
    refine Rn.cv 60 rfl rfl rfl rfl rfl (m_gyes hc hM.pl hg) (by decide) ?_
    exact Rn.if1f 60 rfl rfl (by dsimp only [tm_c2P]; decide) k
  rcases pk_or (x := y) (n := 2) (by omega) with h1 | ⟨i, hin, rfl⟩
  · refine op_same hi (v := -(nI 1000001)) (cx ?_) (cm hM ?_)
    · refine Rn.if1 60 rfl rfl (fun _ => Rn.ir 60 rfl rfl rfl rfl) (fun h2 => ?_)
      refine Rn.if2t 60 rfl rfl (nI_lt1 (n := 1) (by decide) (h1.resolve_left h2)) ?_
      exact Rn.ir 60 rfl rfl rfl rfl
    · refine Rn.cs 60 rfl rfl rfl rfl (m_no (n := 1) (by decide) h1) (by decide) ?_
      refine Rn.if1t 60 rfl rfl (by dsimp only [tm_c2P]; decide) ?_
      exact Rn.ir 60 rfl rfl rfl rfl
  obtain ⟨b, hbi⟩ : ∃ b, nI i = bI b := by
    rcases (by omega : i = 0 ∨ i = 1) with rfl | rfl
    · exact ⟨false, rfl⟩
    · exact ⟨true, rfl⟩
  have dx : ∀ {r0 : Rs}, Rn none 19 jX_won (23, [some (vR (sg 0)), some (vI (nI g)), some (vI (bI b)), some (vI z)], [], w) r0 → Cl 20 jX_won [vR (sg 0), vI (nI g), vI (nI i), vI z] w r0 := by
    intro r0 k
    rw [← hbi] at k
    refine cx ?_
    refine Rn.if1f 60 rfl rfl (nI_pos (by omega)) ?_
    exact Rn.if2f 60 rfl rfl (nI_nlt (by omega) (by omega)) k
  have dm : ∀ {w : Wd} {r0 : Rs}, Mt w c nr ti o sp dy wf → Rn none 19 jM_won (17, [some (vR (sg 13)), some (vI (nI g)), some (vI (bI b)), some (vI z)], [], w) r0 → Cl 20 jM_won [vR (sg 13), vI (nI g), vI (nI i), vI z] w r0 := by
    intro w r0 hM k
    rw [← hbi] at k
    refine cm hM ?_
    refine Rn.cs 60 rfl rfl rfl rfl (m_yes (n := 1) (by decide) (by omega)) (by decide) ?_
    exact Rn.if1f 60 rfl rfl (by dsimp only [tm_c2P]; decide) k
  rcases pk_or (x := z) (n := 2) (by omega) with h1 | ⟨k, hk, rfl⟩
  · refine op_same hi (v := -(nI 1000001)) (dx ?_) (dm hM ?_)
    · refine Rn.if1 60 rfl rfl (fun _ => Rn.ir 60 rfl rfl rfl rfl) (fun h2 => ?_)
      refine Rn.if2f 60 rfl rfl (Int32.not_le.mpr (nI_lt1 (n := 1) (by decide) (h1.resolve_left h2))) ?_
      exact Rn.ir 60 rfl rfl rfl rfl
    · refine Rn.cs 60 rfl rfl rfl rfl (m_no (n := 1) (by decide) h1) (by decide) ?_
      refine Rn.if1t 60 rfl rfl (by dsimp only [tm_c2P]; decide) ?_
      exact Rn.ir 60 rfl rfl rfl rfl
  obtain ⟨w1, f1, f2⟩ := sp_fewest hc (TwnI.now hci) hok.2.1 (n := 1) b hg (by omega)
  have hM1 := hM.seer (FrR.o4 f2)
  obtain ⟨w2, b1, b2⟩ := m_fewest b hc hM1 hok.2.1 hg (n := 1) (by omega) hk
  refine ⟨w1, w2, moS (feN (fun s => soK c nr ti (wfS wf s g b (c 4)) g b 1 (o, sp)) (2 ^ c 4) 0 none) k, dx ?_, dm hM1 ?_, (hi.seer (FrR.o4 f2)).mfr b2⟩
  · refine Rn.if1f 60 rfl rfl (nI_pos (by omega)) ?_
    refine Rn.if2t 60 rfl rfl (nI_le (by omega) (by decide)) ?_
    refine Rn.cv 60 rfl rfl rfl rfl rfl f1 (by decide) ?_
    refine Rn.cs 60 rfl rfl rfl rfl (x_manyOrSet (fun f hf => by have := feN_lt _ _ _ f hf (fun f hf => by cases hf); omega) hk) (by decide) ?_
    exact Rn.ir 60 rfl rfl rfl rfl
  · refine Rn.cs 60 rfl rfl rfl rfl (m_yes (n := 1) (by decide) (by omega)) (by decide) ?_
    refine Rn.if1f 60 rfl rfl (by dsimp only [tm_c2P]; decide) ?_
    refine Rn.cv 60 rfl rfl rfl rfl rfl b1 (by decide) ?_
    exact Rn.ir 60 rfl rfl rfl rfl
theorem pk_or1 {x : Int32} {n : Nat} (hn : n + 1 < 2 ^ 31) : (x < nI 1 ∨ nI n < x) ∨ ∃ j, 1 ≤ j ∧ j ≤ n ∧ x = nI j := by
  rcases pk_or (x := x) (n := n + 1) hn with (h | h) | ⟨j, h1, rfl⟩
  · exact Or.inl (Or.inl (Int32.lt_trans h (by decide)))
  · exact Or.inl (Or.inr (nI_lt1 hn h))
  · rcases Nat.eq_zero_or_pos j with h0 | h0
    · subst h0
      exact Or.inl (Or.inl (by decide))
    · exact Or.inr ⟨j, h0, by omega, rfl⟩
theorem m_no1 {w : Wd} {x y z : Int32} (h : x < y ∨ z < x) : Cl 1 jM_in [vI x, vI y, vI z] w (some (vI (bI false)), w) := by
  have k := m_in (w := w) (x := x) (y := y) (z := z)
  rcases h with h | h
  · rw [decide_eq_false (Int32.not_le.mpr h)] at k
    exact k
  · rw [decide_eq_false (Int32.not_le.mpr h), Bool.and_false] at k
    exact k
theorem m_yes1 {w : Wd} {j n m : Nat} (hn : n < 2 ^ 31) (h : j ≤ n) (h1 : m ≤ j) : Cl 1 jM_in [vI (nI j), vI (nI m), vI (nI n)] w (some (vI (bI true)), w) := by
  have k := m_in (w := w) (x := nI j) (y := nI m) (z := nI n)
  rw [decide_eq_true (nI_le h1 (by omega)), decide_eq_true (nI_le h hn)] at k
  exact k
theorem op_kept {x y z : Int32} : Op jX_kept jM_kept [vI x, vI y, vI z] := by
  intro w hi
  obtain ⟨hb, c, nr, ti, o, sp, dy, wf, hok, hci, hma, hact⟩ := id hi.2.2.2.2.2
  have hM : Mt w c nr ti o sp dy wf := ⟨hb, hma⟩
  have hc := hok.1
  have hc3 := hc.2.1
  have hc4 := hc.2.2.1
  have hp4 : 2 ^ c 4 ≤ 32 := Nat.pow_le_pow_right (n := 2) (by decide) hc4
  have x3 : w (cit 0 0) 3 = nI (c 3) := hci.1.2.1
  rcases pk_or (x := x) (n := c 3) (by omega) with h1 | ⟨g, hg, rfl⟩
  · refine op_same hi (v := -(nI 1000001)) ?_ ?_
    · refine Cl.of rfl rfl rfl (lc := [some (vR (sg 0)), some (vI x), some (vI y), some (vI z)]) rfl ?_
      refine Rn.cs 60 rfl rfl rfl rfl (by rw [x3]; exact x_no (by omega) h1) (by decide) ?_
      refine Rn.if1t 60 rfl rfl (by dsimp only [tm_c2P]; decide) ?_
      exact Rn.ir 60 rfl rfl rfl rfl
    · refine Cl.of rfl rfl rfl (lc := [some (vR (sg 13)), some (vI x), some (vI y), some (vI z)]) rfl ?_
      refine Rn.cv 60 rfl rfl rfl rfl rfl (m_gno hc hM.pl h1) (by decide) ?_
      refine Rn.if1t 60 rfl rfl (by dsimp only [tm_c2P]; decide) ?_
      exact Rn.ir 60 rfl rfl rfl rfl
  have cx : ∀ {r0 : Rs}, Rn none 19 jX_kept (14, [some (vR (sg 0)), some (vI (nI g)), some (vI y), some (vI z)], [], w) r0 → Cl 20 jX_kept [vR (sg 0), vI (nI g), vI y, vI z] w r0 := by
    intro r0 k
    refine Cl.of rfl rfl rfl (lc := [some (vR (sg 0)), some (vI (nI g)), some (vI y), some (vI z)]) rfl ?_
    refine Rn.cs 60 rfl rfl rfl rfl (by rw [x3]; exact x_yes (by omega) hg) (by decide) ?_
    exact Rn.if1f 60 rfl rfl (by dsimp only [tm_c2P]; decide) k
  have cm : ∀ {w : Wd} {r0 : Rs}, Mt w c nr ti o sp dy wf → Rn none 19 jM_kept (8, [some (vR (sg 13)), some (vI (nI g)), some (vI y), some (vI z)], [], w) r0 → Cl 20 jM_kept [vR (sg 13), vI (nI g), vI y, vI z] w r0 := by
    intro w r0 hM k
    refine Cl.of rfl rfl rfl (lc := [some (vR (sg 13)), some (vI (nI g)), some (vI y), some (vI z)]) rfl ?_
    refine Rn.cv 60 rfl rfl rfl rfl rfl (m_gyes hc hM.pl hg) (by decide) ?_
    exact Rn.if1f 60 rfl rfl (by dsimp only [tm_c2P]; decide) k
  rcases pk_or1 (x := y) (n := 10) (by omega) with h1 | ⟨n, n1, n10, rfl⟩
  · refine op_same hi (v := -(nI 1000001)) (cx ?_) (cm hM ?_)
    · refine Rn.if2 60 rfl rfl (fun _ => Rn.ir 60 rfl rfl rfl rfl) (fun h2 => ?_)
      refine Rn.if2t 60 rfl rfl (h1.resolve_left h2) ?_
      exact Rn.ir 60 rfl rfl rfl rfl
    · refine Rn.cs 60 rfl rfl rfl rfl (m_no1 h1) (by decide) ?_
      refine Rn.if1t 60 rfl rfl (by dsimp only [tm_c2P]; decide) ?_
      exact Rn.ir 60 rfl rfl rfl rfl
  have dx : ∀ {r0 : Rs}, Rn none 19 jX_kept (25, [some (vR (sg 0)), some (vI (nI g)), some (vI (nI n)), some (vI z)], [], w) r0 → Cl 20 jX_kept [vR (sg 0), vI (nI g), vI (nI n), vI z] w r0 := by
    intro r0 k
    refine cx ?_
    refine Rn.if2f 60 rfl rfl (nI_nlt n1 (by omega)) ?_
    exact Rn.if2f 60 rfl rfl (nI_nlt (by omega) (by omega)) k
  have dm : ∀ {w : Wd} {r0 : Rs}, Mt w c nr ti o sp dy wf → Rn none 19 jM_kept (18, [some (vR (sg 13)), some (vI (nI g)), some (vI (nI n)), some (vI z)], [], w) r0 → Cl 20 jM_kept [vR (sg 13), vI (nI g), vI (nI n), vI z] w r0 := by
    intro w r0 hM k
    refine cm hM ?_
    refine Rn.cs 60 rfl rfl rfl rfl (m_yes1 (n := 10) (by decide) (by omega) n1) (by decide) ?_
    exact Rn.if1f 60 rfl rfl (by dsimp only [tm_c2P]; decide) k
  rcases pk_or (x := z) (n := 2) (by omega) with h1 | ⟨k, hk, rfl⟩
  · refine op_same hi (v := -(nI 1000001)) (dx ?_) (dm hM ?_)
    · refine Rn.if1 60 rfl rfl (fun _ => Rn.ir 60 rfl rfl rfl rfl) (fun h2 => ?_)
      refine Rn.if2f 60 rfl rfl (Int32.not_le.mpr (nI_lt1 (n := 1) (by decide) (h1.resolve_left h2))) ?_
      exact Rn.ir 60 rfl rfl rfl rfl
    · refine Rn.cs 60 rfl rfl rfl rfl (m_no (n := 1) (by decide) h1) (by decide) ?_
      refine Rn.if1t 60 rfl rfl (by dsimp only [tm_c2P]; decide) ?_
      exact Rn.ir 60 rfl rfl rfl rfl
  obtain ⟨w1, f1, f2⟩ := sp_fewest hc (TwnI.now hci) hok.2.1 (n := n) true hg (by omega)
  have hM1 := hM.seer (FrR.o4 f2)
  obtain ⟨w2, b1, b2⟩ := m_fewest true hc hM1 hok.2.1 hg (n := n) (by omega) hk
  refine ⟨w1, w2, moS (feN (fun s => soK c nr ti (wfS wf s g true (c 4)) g true n (o, sp)) (2 ^ c 4) 0 none) k, dx ?_, dm hM1 ?_, (hi.seer (FrR.o4 f2)).mfr b2⟩
  · refine Rn.if1f 60 rfl rfl (nI_pos (by omega)) ?_
    refine Rn.if2t 60 rfl rfl (nI_le (by omega) (by decide)) ?_
    refine Rn.cv 60 rfl rfl rfl rfl rfl f1 (by decide) ?_
    refine Rn.cs 60 rfl rfl rfl rfl (x_manyOrSet (fun f hf => by have := feN_lt _ _ _ f hf (fun f hf => by cases hf); omega) hk) (by decide) ?_
    exact Rn.ir 60 rfl rfl rfl rfl
  · refine Rn.cs 60 rfl rfl rfl rfl (m_yes (n := 1) (by decide) (by omega)) (by decide) ?_
    refine Rn.if1f 60 rfl rfl (by dsimp only [tm_c2P]; decide) ?_
    refine Rn.cv 60 rfl rfl rfl rfl rfl b1 (by decide) ?_
    exact Rn.ir 60 rfl rfl rfl rfl
