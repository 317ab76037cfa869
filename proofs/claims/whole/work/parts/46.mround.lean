/-! round -/
/-- the reference stands at q -/
def MAt (w : Wd) (c : Nat → Nat) (nr ti : Nat) (wf : Nat → Nat) (q : NN) : Prop := MWk w c nr ti q.1 q.2 wf ∧ DyOk c nr ti q.1 q.2 wf
theorem MAt.dawn {w : Wd} {c : Nat → Nat} {nr ti : Nat} {wf : Nat → Nat} {q : NN} (hc : PlOk c) (hp : MPl w c) (h : MAt w c nr ti wf q) : ∃ w', Cl 6 jM_dawns [vR (sg 13)] w (none, w') ∧ MFr w w' ∧ MAt w' c nr ti wf (da c nr ti wf q) := by
  obtain ⟨w', h1, h2, h3⟩ := m_dawns hc hp h.1 h.2
  exact ⟨w', h1, h2, h3, h.2.da hc⟩
theorem m_length {w : Wd} {c : Nat → Nat} {nr ti o sp dy : Nat} {wf : Nat → Nat} (hc : PlOk c) (hM : Mt w c nr ti o sp dy wf) (hd : DyOk c nr ti o sp wf) : ∃ w', Cl 8 jM_length [vR (sg 13)] w (some (vI (nI (brL (da c nr ti wf) (o, sp)))), w') ∧ MFr w w' := by
  obtain ⟨w1, a1, a2, a3⟩ := m_begin hc hM.1 hM.2
  have key : ∀ f i n m (t u : NN) L w3 x5, brN (da c nr ti wf) f t u n m = some L → i + 1 = m + n → n < m → i + f ≤ 20000 → t.1 < 256 → t.2 < 32 → MFr w w3 → MAt w3 c nr ti wf u → ∃ w4, MFr w w4 ∧ Rn none 7 jM_length (51, [some (vR (sg 13)), some (vI (nI t.1)), some (vI (nI t.2)), some (vI (nI n)), some (vI (nI m)), x5], [], w3) (some (vI (nI L)), w4) := by
    intro f
    induction f with
    | zero => intro i n m t u L w3 x5 h; cases h
    | succ f ih =>
      intro i n m t u L w3 x5 hb hi hn hf ht1 ht2 hr hu
      obtain ⟨w4, b1, b2, b3⟩ := hu.dawn hc (hM.mfr hr).pl
      obtain ⟨u1, u2⟩ : (da c nr ti wf u).1 < 256 ∧ (da c nr ti wf u).2 < 32 := ⟨b3.2.2.2.1, b3.2.2.2.2.1⟩
      have head : ∀ r, Rn none 7 jM_length (79, [some (vR (sg 13)), some (vI (nI t.1)), some (vI (nI t.2)), some (vI (nI (n + 1))), some (vI (nI m)), x5], [vI (bI (decide (da c nr ti wf u = t)))], w4) r → Rn none 7 jM_length (51, [some (vR (sg 13)), some (vI (nI t.1)), some (vI (nI t.2)), some (vI (nI n)), some (vI (nI m)), x5], [], w3) r := by
        intro r k
        refine Rn.cv 60 rfl rfl rfl rfl rfl b1 (by decide) ?_
        rw [nI_succ n] at k
        by_cases e1 : (da c nr ti wf u).1 = t.1
        · refine Rn.if2f 60 rfl rfl (by dsimp only [tm_c2P]; rw [b3.1.1, e1]; exact fun z => z rfl) ?_
          by_cases e2 : (da c nr ti wf u).2 = t.2
          · rw [decide_eq_true (Prod.ext e1 e2)] at k
            refine Rn.if2f 60 rfl rfl (by dsimp only [tm_c2P]; rw [b3.1.2.1, e2]; exact fun z => z rfl) ?_
            exact Rn.at 2 rfl k
          · rw [decide_eq_false (fun z => e2 (by rw [z]))] at k
            refine Rn.if2t 60 rfl rfl (by dsimp only [tm_c2P]; rw [b3.1.2.1, nI_eq (by omega) (by omega)]; exact e2) ?_
            exact Rn.at 1 rfl k
        · rw [decide_eq_false (fun z => e1 (by rw [z]))] at k
          refine Rn.if2t 60 rfl rfl (by dsimp only [tm_c2P]; rw [b3.1.1, nI_eq (by omega) (by omega)]; exact e1) ?_
          exact Rn.at 1 rfl k
      unfold brN at hb
      by_cases c1 : da c nr ti wf u = t
      · rw [if_pos c1] at hb
        cases hb
        rw [decide_eq_true c1] at head
        refine ⟨w4, hr.tr b2, head _ ?_⟩
        refine Rn.if1t 60 rfl rfl (by dsimp only [tm_c2P]; decide) ?_
        exact Rn.ir 60 rfl rfl rfl rfl
      · rw [if_neg c1] at hb
        rw [decide_eq_false c1] at head
        by_cases c2 : n + 1 = m
        · rw [if_pos c2] at hb
          obtain ⟨w6, d1, d2⟩ := ih (i + 1) 0 (2 * m) (da c nr ti wf u) (da c nr ti wf u) L w4 (some (vI (bI false))) hb (by omega) (by omega) (by omega) u1 u2 (hr.tr b2) b3
          refine ⟨w6, d1, head _ ?_⟩
          refine Rn.if1f 60 rfl rfl (by dsimp only [tm_c2P]; decide) ?_
          refine Rn.if2f 60 rfl rfl (by dsimp only [tm_c2P]; rw [c2]; exact fun z => z rfl) ?_
          rw [← nJ_2mul, ← b3.1.1, ← b3.1.2.1] at d2
          exact Rn.at 12 rfl d2
        · rw [if_neg c2] at hb
          obtain ⟨w6, d1, d2⟩ := ih (i + 1) (n + 1) m t (da c nr ti wf u) L w4 (some (vI (bI false))) hb (by omega) (by omega) (by omega) ht1 ht2 (hr.tr b2) b3
          refine ⟨w6, d1, head _ ?_⟩
          refine Rn.if1f 60 rfl rfl (by dsimp only [tm_c2P]; decide) ?_
          exact Rn.if2t 60 rfl rfl (by dsimp only [tm_c2P]; rw [nI_eq (by omega) (by omega)]; exact c2) d2
  have hL := (brL_is (F := da c nr ti wf) (fun q hq => da_ok hc hq.2) (q := (o, sp)) ⟨hd.2.2.1, hd.2.2.2.1⟩).1
  obtain ⟨w4, e1, e2⟩ := key 20000 0 0 1 _ _ _ w1 (some (vI (nI 0))) hL (by omega) (by omega) (by omega) hd.2.2.1 hd.2.2.2.1 a2 ⟨a3, hd⟩
  refine ⟨w4, ?_, e1⟩
  refine Cl.of rfl rfl rfl (lc := [some (vR (sg 13)), none, none, none, none, none]) rfl ?_
  refine Rn.cv 60 rfl rfl rfl rfl rfl a1 (by decide) ?_
  refine Rn.at 12 (x := (22, [some (vR (sg 13)), some (vI (nI o)), some (vI (nI sp)), some (vI (nI 0)), some (vI (nI 1)), some (vI (nI 0))], [], w1)) (by rw [← a3.1, ← a3.2.1]; rfl) ?_
  refine Rn.if1f 60 rfl rfl (by dsimp only [tm_c2P]; decide) ?_
  exact Rn.if2t 60 rfl rfl (by dsimp only [tm_c2P]; decide) e2
theorem MWk.at {w : Wd} {c : Nat → Nat} {nr ti o sp o' sp' : Nat} {wf : Nat → Nat} (h : MWk w c nr ti o sp wf) : MWk (wset (wset w (sg 13) 18 (nI o')) (sg 13) 19 (nI sp')) c nr ti o' sp' wf := by
  refine ⟨by rw [wset_k (by decide), wset_s], wset_s, by rw [wset_k (by decide), wset_k (by decide)]; exact h.2.2.1, by rw [wset_k (by decide), wset_k (by decide)]; exact h.2.2.2.1, fun q hq => ?_⟩
  rw [wset_ne (by decide), wset_ne (by decide)]
  exact h.2.2.2.2 q hq
theorem op_round {x : Int32} : Op jX_round jM_round [vI x] := by
  intro w hi
  obtain ⟨hb, c, nr, ti, o, sp, dy, wf, hok, hci, hma, hact⟩ := id hi.2.2.2.2.2
  have hM : Mt w c nr ti o sp dy wf := ⟨hb, hma⟩
  have hc := hok.1
  have hd := hok.2.1
  have hc0 := hc.1
  by_cases h0 : 0 < c 0
  · have cx : ∀ {r0 : Rs}, Rn none 19 jX_round (13, [some (vR (sg 0)), some (vI x), none], [], w) r0 → Cl 20 jX_round [vR (sg 0), vI x] w r0 := by
      intro r0 k
      refine Cl.of rfl rfl rfl (lc := [some (vR (sg 0)), some (vI x), none]) rfl ?_
      refine Rn.cv 60 rfl rfl rfl rfl rfl (x_there hc hci) (by decide) ?_
      rw [decide_eq_true h0]
      exact Rn.if1t 60 rfl rfl (by dsimp only [tm_c2P]; decide) k
    have cm : ∀ {w : Wd} {r0 : Rs}, Mt w c nr ti o sp dy wf → Rn none 19 jM_round (10, [some (vR (sg 13)), some (vI x), none, none, none, none, none, none], [], w) r0 → Cl 20 jM_round [vR (sg 13), vI x] w r0 := by
      intro w r0 hM k
      refine Cl.of rfl rfl rfl (lc := [some (vR (sg 13)), some (vI x), none, none, none, none, none, none]) rfl ?_
      refine Rn.cv 60 rfl rfl rfl rfl rfl (m_hasCity hc hM.pl) (by decide) ?_
      rw [decide_eq_true h0]
      exact Rn.if1t 60 rfl rfl (by dsimp only [tm_c2P]; decide) k
    rcases pk_or (x := x) (n := 2) (by omega) with h1 | ⟨k, hk, rfl⟩
    · refine op_same hi (v := -(nI 1000001)) (cx ?_) (cm hM ?_)
      · refine Rn.if1 60 rfl rfl (fun _ => Rn.ir 60 rfl rfl rfl rfl) (fun h2 => ?_)
        refine Rn.if2f 60 rfl rfl (Int32.not_le.mpr (nI_lt1 (n := 1) (by decide) (h1.resolve_left h2))) ?_
        exact Rn.ir 60 rfl rfl rfl rfl
      · refine Rn.cs 60 rfl rfl rfl rfl (m_no (n := 1) (by decide) h1) (by decide) ?_
        refine Rn.if1f 60 rfl rfl (by dsimp only [tm_c2P]; decide) ?_
        exact Rn.ir 60 rfl rfl rfl rfl
    have hF : ∀ q, st8 q → st8 (da c nr ti wf q) := fun q hq => da_ok hc hq.2
    obtain ⟨_, kk, _, _, _, hL⟩ := brL_is hF (q := (o, sp)) ⟨hd.2.2.1, hd.2.2.2.1⟩
    obtain ⟨hT, hT2⟩ := tlL_is hF (q := (o, sp)) ⟨hd.2.2.1, hd.2.2.2.1⟩
    obtain ⟨w1, f1, f2⟩ := sp_roundLength hc (TwnI.now hci) hd
    have hci1 := hci.fr (fun p => f2.town p)
    obtain ⟨w2, g1, g2⟩ := sp_roundTail hc (TwnI.now hci1) hd
    generalize hl : brL (da c nr ti wf) (o, sp) = ll at *
    generalize ht : tlL (da c nr ti wf) (o, sp) = tt at *
    have ex : ∀ {r0 : Rs}, Rn none 19 jX_round (37, [some (vR (sg 0)), some (vI (nI k)), some (vI (nI ll))], [], w1) r0 → Cl 20 jX_round [vR (sg 0), vI (nI k)] w r0 := by
      intro r0 kk
      refine cx ?_
      refine Rn.if1f 60 rfl rfl (nI_pos (by omega)) ?_
      refine Rn.if2t 60 rfl rfl (nI_le (by omega) (by decide)) ?_
      refine Rn.cv 60 rfl rfl rfl rfl rfl f1 (by decide) ?_
      exact Rn.at 1 rfl kk
    have em : ∀ {w : Wd}, Mt w c nr ti o sp dy wf → ∃ w' x4 x5 x6 x7, MFr w w' ∧ ∀ r0, Rn none 19 jM_round (138, [some (vR (sg 13)), some (vI (nI k)), some (vI (nI ll)), some (vI (nI tt)), x4, x5, x6, x7], [], w') r0 → Cl 20 jM_round [vR (sg 13), vI (nI k)] w r0 := by
      intro w hM
      obtain ⟨w3, i1, i2⟩ := m_length hc hM hd
      rw [hl] at i1
      obtain ⟨w4, j1, j2, j3⟩ := m_begin hc (hM.mfr i2).1 (hM.mfr i2).2
      obtain ⟨w5, l1, l2, l3, l4⟩ := m_dawnMany hc (hM.mfr (i2.tr j2)).pl j3 hd (n := ll) (by omega)
      rw [daI_itN] at l3 l4
      have key : ∀ f n (t u q : NN) L w6, tlN (da c nr ti wf) f t u n = some L → MFr w w6 → MWk w6 c nr ti q.1 q.2 wf → st8 t → st8 u → ∃ w7 x4 x5 x6 x7, MFr w w7 ∧ ∀ r0, Rn none 19 jM_round (138, [some (vR (sg 13)), some (vI (nI k)), some (vI (nI ll)), some (vI (nI L)), x4, x5, x6, x7], [], w7) r0 → Rn none 19 jM_round (62, [some (vR (sg 13)), some (vI (nI k)), some (vI (nI ll)), some (vI (nI n)), some (vI (nI t.1)), some (vI (nI t.2)), some (vI (nI u.1)), some (vI (nI u.2))], [], w6) r0 := by
        intro f
        induction f with
        | zero => intro n t u q L w6 h; cases h
        | succ f ih =>
          intro n t u q L w6 hb hf hq ht hu
          obtain ⟨t1, t2⟩ := id ht
          obtain ⟨u1, u2⟩ := id hu
          unfold tlN at hb
          by_cases c1 : t = u
          · rw [if_pos c1] at hb
            cases hb
            refine ⟨w6, some (vI (nI t.1)), some (vI (nI t.2)), some (vI (nI u.1)), some (vI (nI u.2)), hf, fun r0 kk => ?_⟩
            refine Rn.if2f 60 rfl rfl (by dsimp only [tm_c2P]; rw [c1]; exact fun z => z rfl) ?_
            exact Rn.if2t 60 rfl rfl (by dsimp only [tm_c2P]; rw [c1]) kk
          · rw [if_neg c1] at hb
            have ht' : MAt (wset (wset w6 (sg 13) 18 (nI t.1)) (sg 13) 19 (nI t.2)) c nr ti wf t := ⟨hq.at, hd.1, hd.2.1, t1, t2, hd.2.2.2.2⟩
            have f1 := (hf.tr (MFr.set (j := 18) (x := nI t.1) (by decide))).tr (MFr.set (j := 19) (x := nI t.2) (by decide))
            obtain ⟨w7, a1, a2, a3⟩ := ht'.dawn hc (hM.mfr f1).pl
            have hu' : MAt (wset (wset w7 (sg 13) 18 (nI u.1)) (sg 13) 19 (nI u.2)) c nr ti wf u := ⟨a3.1.at, hd.1, hd.2.1, u1, u2, hd.2.2.2.2⟩
            have f2 := ((f1.tr a2).tr (MFr.set (j := 18) (x := nI u.1) (by decide))).tr (MFr.set (j := 19) (x := nI u.2) (by decide))
            obtain ⟨w8, b1, b2, b3⟩ := hu'.dawn hc (hM.mfr f2).pl
            obtain ⟨w9, x4, x5, x6, x7, d1, d2⟩ := ih (n + 1) (da c nr ti wf t) (da c nr ti wf u) (da c nr ti wf u) L w8 hb (f2.tr b2) b3.1 (hF t ht) (hF u hu)
            refine ⟨w9, x4, x5, x6, x7, d1, fun r0 kk => ?_⟩
            have d3 := d2 r0 kk
            have body : Rn none 19 jM_round (76, [some (vR (sg 13)), some (vI (nI k)), some (vI (nI ll)), some (vI (nI n)), some (vI (nI t.1)), some (vI (nI t.2)), some (vI (nI u.1)), some (vI (nI u.2))], [], w6) r0 := by
              refine Rn.cv 60 rfl rfl rfl rfl rfl a1 (by decide) ?_
              refine Rn.at 12 (x := (116, [some (vR (sg 13)), some (vI (nI k)), some (vI (nI ll)), some (vI (nI n)), some (vI (nI (da c nr ti wf t).1)), some (vI (nI (da c nr ti wf t).2)), some (vI (nI u.1)), some (vI (nI u.2))], [], wset (wset w7 (sg 13) 18 (nI u.1)) (sg 13) 19 (nI u.2))) (by rw [← a3.1.1, ← a3.1.2.1]; rfl) ?_
              refine Rn.cv 60 rfl rfl rfl rfl rfl b1 (by decide) ?_
              rw [nI_succ n, ← b3.1.1, ← b3.1.2.1] at d3
              exact Rn.at 8 rfl d3
            refine Rn.if2 60 rfl rfl (fun _ => body) (fun h => ?_)
            dsimp only [tm_c2P] at h
            rw [nI_eq (by omega) (by omega), Classical.not_not] at h
            refine Rn.if2f 60 rfl rfl (by
              dsimp only [tm_c2P]
              rw [nI_eq (by omega) (by omega)]
              exact fun z => c1 (Prod.ext h z)) body
      have i8 : st8 (itN (da c nr ti wf) ll (o, sp)) := itN_in (P := st8) hF (q := (o, sp)) ⟨hd.2.2.1, hd.2.2.2.1⟩ ll
      obtain ⟨w7, x4, x5, x6, x7, m1, m2⟩ := key 30000 0 (o, sp) (itN (da c nr ti wf) ll (o, sp)) (itN (da c nr ti wf) ll (o, sp)) tt w5 hT ((i2.tr j2).tr l2) l3 ⟨hd.2.2.1, hd.2.2.2.1⟩ i8
      refine ⟨w7, x4, x5, x6, x7, m1, fun r0 kk => cm hM ?_⟩
      refine Rn.cs 60 rfl rfl rfl rfl (m_yes (n := 1) (by decide) (by omega)) (by decide) ?_
      refine Rn.if1t 60 rfl rfl (by dsimp only [tm_c2P]; decide) ?_
      refine Rn.cv 60 rfl rfl rfl rfl rfl i1 (by decide) ?_
      refine Rn.cv 60 rfl rfl rfl rfl rfl j1 (by decide) ?_
      refine Rn.at 8 (x := (47, [some (vR (sg 13)), some (vI (nI k)), some (vI (nI ll)), some (vI (nI 0)), some (vI (nI o)), some (vI (nI sp)), none, none], [vI (nI ll), vR (sg 13)], w4)) (by rw [← j3.1, ← j3.2.1]; rfl) ?_
      refine Rn.cv 60 rfl rfl rfl rfl rfl l1 (by decide) ?_
      have m3 := m2 r0 kk
      rw [← l3.1, ← l3.2.1] at m3
      exact Rn.at 6 rfl m3
    rcases (by omega : k = 0 ∨ k = 1) with rfl | rfl
    · have hM2 := (hM.seer f2).seer g2
      obtain ⟨w3, x4, x5, x6, x7, m1, m2⟩ := em hM2
      refine ⟨w2, w3, nI tt, ex ?_, m2 _ ?_, ((hi.seer f2).seer g2).mfr m1⟩
      · refine Rn.if2t 60 rfl rfl (by dsimp only [tm_c2P]; decide) ?_
        refine Rn.cv 60 rfl rfl rfl rfl rfl g1 (by decide) ?_
        exact Rn.ir 60 rfl rfl rfl rfl
      · refine Rn.if1f 60 rfl rfl (by dsimp only [tm_c2P]; decide) ?_
        exact Rn.ir 60 rfl rfl rfl rfl
    · have hM2 := hM.seer f2
      obtain ⟨w3, x4, x5, x6, x7, m1, m2⟩ := em hM2
      refine ⟨w1, w3, nI ll, ex ?_, m2 _ ?_, (hi.seer f2).mfr m1⟩
      · refine Rn.if2f 60 rfl rfl (by dsimp only [tm_c2P]; decide) ?_
        exact Rn.ir 60 rfl rfl rfl rfl
      · refine Rn.if1t 60 rfl rfl (by dsimp only [tm_c2P]; decide) ?_
        exact Rn.ir 60 rfl rfl rfl rfl
  · refine op_same hi (v := -(nI 1000002)) ?_ ?_
    · refine Cl.of rfl rfl rfl (lc := [some (vR (sg 0)), some (vI x), none]) rfl ?_
      refine Rn.cv 60 rfl rfl rfl rfl rfl (x_there hc hci) (by decide) ?_
      rw [decide_eq_false h0]
      refine Rn.if1f 60 rfl rfl (by dsimp only [tm_c2P]; decide) ?_
      exact Rn.ir 60 rfl rfl rfl rfl
    · refine Cl.of rfl rfl rfl (lc := [some (vR (sg 13)), some (vI x), none, none, none, none, none, none]) rfl ?_
      refine Rn.cv 60 rfl rfl rfl rfl rfl (m_hasCity hc hM.pl) (by decide) ?_
      rw [decide_eq_false h0]
      refine Rn.if1f 60 rfl rfl (by dsimp only [tm_c2P]; decide) ?_
      exact Rn.ir 60 rfl rfl rfl rfl
