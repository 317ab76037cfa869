/-! the class reads: people, all -/
theorem sp_people {N nr ti o : Nat} {B : Nat → Nat} : ∀ n c wf a w x3, n + c 4 = 5 → 1 ≤ c 0 ∧ c 0 ≤ 6 → c 3 ≤ 8 → Dft w c nr ti o wf → TpC w N B a → (∃ f w', pPs B N n c wf a = .inl f ∧ Rn none 4 jT_readPeople (2, [some (vR (sg 2)), some (vR (cit 1 0)), some (vI (nI (c 4))), x3], [], w) (some (vI (bI false)), w') ∧ CFr w w' ∧ Flt w' f.1 f.2) ∨ ∃ q w', pPs B N n c wf a = .inr q ∧ Rn none 4 jT_readPeople (2, [some (vR (sg 2)), some (vR (cit 1 0)), some (vI (nI (c 4))), x3], [], w) (some (vI (bI true)), w') ∧ CFr w w' ∧ w' (sg 2) 2 = w (sg 2) 2 ∧ Dft w' q.1 nr ti o q.2 := by
  have st : ∀ {c : Nat → Nat} {a : Nat} {w : Wd} {x3 : Option AV} {r : Rs}, c 4 ≤ 5 → TpC w N B a → (a < N → Rn none 4 jT_readPeople (31, [some (vR (sg 2)), some (vR (cit 1 0)), some (vI (nI (c 4))), some (vI (nI (sof (B a))))], [], w) r) → (N ≤ a → Rn none 4 jT_readPeople (101, [some (vR (sg 2)), some (vR (cit 1 0)), some (vI (nI (c 4))), x3], [], w) r) → Rn none 4 jT_readPeople (2, [some (vR (sg 2)), some (vR (cit 1 0)), some (vI (nI (c 4))), x3], [], w) r := by
    intro c a w x3 r h4 ht kf kt
    obtain ⟨hN, hB, ha, t1, t4, t3⟩ := id ht
    refine Rn.if2f 60 rfl rfl (by dsimp only [tm_c2P]; rw [nJ_lt (by decide) (by omega)]; omega) ?_
    refine Rn.if2 60 rfl rfl (fun z => ?_) (fun z => ?_)
    · dsimp only [tm_c2P] at z
      rw [t1, t4, nJ_le (by omega) (by omega)] at z
      exact kt z
    · dsimp only [tm_c2P] at z
      rw [t1, t4, nJ_le (by omega) (by omega)] at z
      refine Rn.al 60 rfl rfl rfl t4 (by omega) ?_
      rw [t3 a (by omega)]
      refine Rn.cs 60 rfl rfl rfl rfl (sp_sortOf (hB a (by omega))) (by decide) ?_
      exact Rn.at 1 rfl (kf (by omega))
  have no1 : ∀ {c : Nat → Nat} {a : Nat} {w : Wd}, TpC w N B a → sof (B a) = 0 → Rn none 4 jT_readPeople (31, [some (vR (sg 2)), some (vR (cit 1 0)), some (vI (nI (c 4))), some (vI (nI (sof (B a))))], [], w) (some (vI (bI false)), wset (wset w (sg 2) 2 (nI 1)) (sg 2) 3 (nI a)) := by
    intro c a w ht hs
    rw [hs]
    refine Rn.if1f 60 rfl rfl (by dsimp only [tm_c2P]; decide) ?_
    rw [← ht.2.2.2.2.1]
    refine Rn.cv 60 rfl rfl rfl rfl rfl sp_refuse (by decide) ?_
    exact Rn.zr 60 rfl rfl rfl (by decide) rfl
  have yes1 : ∀ {c : Nat → Nat} {a : Nat} {w : Wd} {r : Rs}, ¬ sof (B a) = 0 → Rn none 4 jT_readPeople (45, [some (vR (sg 2)), some (vR (cit 1 0)), some (vI (nI (c 4))), some (vI (nI (sof (B a))))], [], w) r → Rn none 4 jT_readPeople (31, [some (vR (sg 2)), some (vR (cit 1 0)), some (vI (nI (c 4))), some (vI (nI (sof (B a))))], [], w) r := by
    intro c a w r hs kk
    have h5 := sof5 (v := B a)
    exact Rn.if1t 60 rfl rfl (nI_ne0 (by omega) (by omega)) kk
  have flt : ∀ {w : Wd} {n a : Nat}, CFr w (wset (wset w (sg 2) 2 (nI n)) (sg 2) 3 (nI a)) ∧ Flt (wset (wset w (sg 2) 2 (nI n)) (sg 2) 3 (nI a)) n a := fun {w n a} => ⟨((PFr.set (by decide)).tr (PFr.set (by decide))).c, by rw [wset_k (by decide), wset_s], wset_s⟩
  intro n
  induction n with
  | zero =>
    intro c wf a w x3 hn h0 h3 hd ht
    have e4 : c 4 = 5 := by omega
    unfold pPs
    by_cases q : a < N
    · rw [if_pos q]
      by_cases hs : sof (B a) = 0
      · rw [if_pos hs]
        exact Or.inl ⟨(1, a), _, rfl, st (by omega) ht (fun _ => no1 ht hs) (fun z => absurd z (by omega)), flt.1, flt.2⟩
      · rw [if_neg hs]
        refine Or.inl ⟨(3, a), wset (wset w (sg 2) 2 (nI 3)) (sg 2) 3 (nI a), rfl, st (by omega) ht (fun _ => yes1 hs ?_) (fun z => absurd z (by omega)), flt.1, flt.2⟩
        refine Rn.if2f 60 rfl rfl (by dsimp only [tm_c2P]; rw [e4]; exact fun z => z rfl) ?_
        rw [← ht.2.2.2.2.1]
        refine Rn.cv 60 rfl rfl rfl rfl rfl sp_refuse (by decide) ?_
        exact Rn.zr 60 rfl rfl rfl (by decide) rfl
    · rw [if_neg q]
      refine Or.inr ⟨(c, wf), w, rfl, st (by omega) ht (fun z => absurd z q) (fun _ => ?_), CFr.rf, rfl, hd⟩
      exact Rn.zr 60 rfl rfl rfl (by decide) rfl
  | succ n ih =>
    intro c wf a w x3 hn h0 h3 hd ht
    unfold pPs
    by_cases q : a < N
    · rw [if_pos q]
      by_cases hs : sof (B a) = 0
      · rw [if_pos hs]
        exact Or.inl ⟨(1, a), _, rfl, st (by omega) ht (fun _ => no1 ht hs) (fun z => absurd z (by omega)), flt.1, flt.2⟩
      rw [if_neg hs]
      obtain ⟨o1, o2, o3⟩ := ht.on q
      generalize hw1 : wset w (sg 2) 4 (nI (a + 1)) = w1 at o1 o2 o3
      have c1 : ∀ p, w1 (cit 1 p) = w (cit 1 p) := fun p => o2.1 _ cit_sg
      have fr1 : CFr w (wset w1 (cit 1 3) (c 4) (nI (sof (B a)))) := o2.p.c.tr CFr.wc
      have st2 : ∀ {r : Rs}, Rn none 4 jT_readPeople (77, [some (vR (sg 2)), some (vR (cit 1 0)), some (vI (nI (c 4))), some (vI (nI (sof (B a))))], [], wset w1 (cit 1 3) (c 4) (nI (sof (B a)))) r → Rn none 4 jT_readPeople (2, [some (vR (sg 2)), some (vR (cit 1 0)), some (vI (nI (c 4))), x3], [], w) r := by
        intro r kk
        refine st (by omega) ht (fun _ => yes1 hs ?_) (fun z => absurd z (by omega))
        refine Rn.if2t 60 rfl rfl (by dsimp only [tm_c2P]; rw [nI_eq (by omega) (by decide)]; omega) ?_
        refine Rn.at 6 (x := (70, [some (vR (sg 2)), some (vR (cit 1 0)), some (vI (nI (c 4))), some (vI (nI (sof (B a))))], [], wset w (sg 2) 4 (w (sg 2) 4 + nI 1))) rfl ?_
        rw [o1]
        exact Rn.as 60 rfl rfl rfl rfl (by omega) kk
      rcases sp_readPerson (i := c 4) (P := c 0) (M := c 3) (TpC.wc (k := 1) (p := 3) (j := c 4) (x := nI (sof (B a))) o3) (by omega) h0 h3 (by rw [wset_ne (cit_p (by decide)), c1]; exact hd.1.1) (by rw [wset_ne (cit_p (by decide)), c1]; exact hd.1.2.1) with ⟨f, w', g1, g2, g3, g4⟩ | ⟨v, w2, g1, g2, g3⟩
      · rw [g1]
        refine Or.inl ⟨f, w', rfl, st2 ?_, fr1.tr g3, g4⟩
        refine Rn.cv 60 rfl rfl rfl rfl rfl g2 (by decide) ?_
        refine Rn.if1f 60 rfl rfl (by dsimp only [tm_c2P]; decide) ?_
        exact Rn.zr 60 rfl rfl rfl (by decide) rfl
      · rw [g1]
        obtain ⟨k1, k2, k3, k4⟩ := id g3
        have hd2 : Dft (wset w2 (cit 1 0) 4 (nI (c 4 + 1))) (qC c (sof (B a)) v.1 v.2.1 v.2.2.2.1) nr ti o (upW wf (c 4) v.2.2.1) := hd.pers h3 (by omega) (wset_cc (fun p => (k4 p).trans (wset_cc (wset_cc (wset_cc (wset_cc (wset_cc c1)))) p)))
        have st3 : ∀ {r : Rs}, Rn none 4 jT_readPeople (2, [some (vR (sg 2)), some (vR (cit 1 0)), some (vI (nI (c 4 + 1))), some (vI (nI (sof (B a))))], [], wset w2 (cit 1 0) 4 (nI (c 4 + 1))) r → Rn none 4 jT_readPeople (2, [some (vR (sg 2)), some (vR (cit 1 0)), some (vI (nI (c 4))), x3], [], w) r := by
          intro r kk
          refine st2 ?_
          refine Rn.cv 60 rfl rfl rfl rfl rfl g2 (by decide) ?_
          refine Rn.if1t 60 rfl rfl (by dsimp only [tm_c2P]; decide) ?_
          exact Rn.at 7 (x := (2, [some (vR (sg 2)), some (vR (cit 1 0)), some (vI (nI (c 4) + nI 1)), some (vI (nI (sof (B a))))], [], wset w2 (cit 1 0) 4 (nI (c 4) + nI 1))) rfl (by rw [nI_add]; exact kk)
        have fr2 : CFr w (wset w2 (cit 1 0) 4 (nI (c 4 + 1))) := (fr1.tr k2).tr CFr.wc
        have x2 : wset w2 (cit 1 0) 4 (nI (c 4 + 1)) (sg 2) 2 = w (sg 2) 2 := by
          rw [wset_ne sg_cit, k3, wset_ne sg_cit]
          exact o2.2 2 (by decide)
        have e0 : qC c (sof (B a)) v.1 v.2.1 v.2.2.2.1 0 = c 0 := qC_n (by decide) (by omega) (by omega) (by omega) (by omega)
        have e3 : qC c (sof (B a)) v.1 v.2.1 v.2.2.2.1 3 = c 3 := qC_n (by decide) (by omega) (by omega) (by omega) (by omega)
        have ih2 := ih (qC c (sof (B a)) v.1 v.2.1 v.2.2.2.1) (upW wf (c 4) v.2.2.1) v.2.2.2.2 _ (some (vI (nI (sof (B a))))) (by rw [qC_4]; omega) (by rw [e0]; exact h0) (by rw [e3]; exact h3) hd2 k1.wc
        rw [qC_4] at ih2
        rcases ih2 with ⟨f, w', i1, i2, i3, i4⟩ | ⟨v', w', i1, i2, i3, i4, i5⟩
        · exact Or.inl ⟨f, w', i1, st3 i2, fr2.tr i3, i4⟩
        · exact Or.inr ⟨v', w', i1, st3 i2, fr2.tr i3, i4.trans x2, i5⟩
    · rw [if_neg q]
      refine Or.inr ⟨(c, wf), w, rfl, st (by omega) ht (fun z => absurd z q) (fun _ => ?_), CFr.rf, rfl, hd⟩
      exact Rn.zr 60 rfl rfl rfl (by decide) rfl
/-- what a reading of gates leaves of the plan -/
theorem pGs_c {B : Nat → Nat} {N : Nat} : ∀ n c o a q, n + c 3 = 8 → pGs B N n c o a = .inr q → q.1 0 = c 0 ∧ q.1 4 = c 4 ∧ q.1 3 ≤ 8 := by
  intro n
  induction n with
  | zero =>
    intro c o a q hn h
    unfold pGs at h
    split at h
    · cases h
    · cases h
      exact ⟨rfl, rfl, by show c 3 ≤ 8; omega⟩
  | succ n ih =>
    intro c o a q hn h
    unfold pGs at h
    split at h
    · cases hg : pGate B N (c 0) (a + 1) with
      | inl f =>
        rw [hg] at h
        cases h
      | inr v =>
        rw [hg] at h
        have k := ih (gC c v.1 v.2.1) _ _ q (by rw [gC_3]; omega) h
        rw [gC_n (show 0 ≠ 3 by decide) (by omega) (by omega), gC_n (show 4 ≠ 3 by decide) (by omega) (by omega)] at k
        exact k
    · cases h
      exact ⟨rfl, rfl, by show c 3 ≤ 8; omega⟩
theorem pHead_c {B : Nat → Nat} {N : Nat} {q : Nat × Nat × Nat × Nat} (h : pHead B N = .inr q) : (2 ≤ q.1 ∧ q.1 ≤ 6) ∧ q.2.1 ≤ 3 ∧ q.2.2.1 ≤ 2 := by
  unfold pHead at h
  cases h1 : pS B N 0 112 with
  | inl f => rw [h1] at h; cases h
  | inr q1 =>
  rw [h1] at h
  dsimp only [bd] at h
  obtain ⟨g1, _, rfl⟩ := pS_ok h1
  cases h2 : pN B N (0 + 1) 2 6 with
  | inl f => rw [h2] at h; cases h
  | inr q2 =>
  rw [h2] at h
  dsimp only [bd] at h
  have l2 := pN_le (by omega) h2
  cases h3 : pS B N q2.2 44 with
  | inl f => rw [h3] at h; cases h
  | inr q3 =>
  rw [h3] at h
  dsimp only [bd] at h
  obtain ⟨g3, _, rfl⟩ := pS_ok h3
  cases h4 : pN B N (q2.2 + 1) 0 3 with
  | inl f => rw [h4] at h; cases h
  | inr q4 =>
  rw [h4] at h
  dsimp only [bd] at h
  have l4 := pN_le (by omega) h4
  cases h5 : pS B N q4.2 44 with
  | inl f => rw [h5] at h; cases h
  | inr q5 =>
  rw [h5] at h
  dsimp only [bd] at h
  obtain ⟨g5, _, rfl⟩ := pS_ok h5
  cases h6 : pN B N (q4.2 + 1) 0 2 with
  | inl f => rw [h6] at h; cases h
  | inr q6 =>
  rw [h6] at h
  dsimp only [bd] at h
  have l6 := pN_le (by omega) h6
  cases h7 : pS B N q6.2 59 with
  | inl f => rw [h7] at h; cases h
  | inr q7 =>
  rw [h7] at h
  cases h
  exact ⟨⟨l2.2.1, l2.2.2⟩, l4.2.2, l6.2.2⟩
/-- the class reads a text: what the text says -/
theorem sp_readAll {w : Wd} {N a : Nat} {B : Nat → Nat} (h : TpC (wset w (sg 2) 4 (nI 0)) N B 0) : (∃ f w', pCity B N = .inl f ∧ Cl 6 jT_readAll [vR (sg 2), vR (cit 1 0)] w (some (vI (bI false)), w') ∧ CFr w w' ∧ Flt w' f.1 f.2) ∨ ∃ q w', pCity B N = .inr q ∧ Cl 6 jT_readAll [vR (sg 2), vR (cit 1 0)] w (some (vI (bI true)), w') ∧ CFr w w' ∧ w' (sg 2) 2 = w (sg 2) 2 ∧ Dft w' q.1 q.2.1 q.2.2.1 q.2.2.2.1 q.2.2.2.2 := by
  have t0 : TpC (clW (wset w (sg 2) 4 (nI 0)) 1) N B 0 := h.wc.wc.wc.wc.wc.wc.wc
  have f0 : CFr w (clW (wset w (sg 2) 4 (nI 0)) 1) := (((((((CFr.tr (PFr.set (by decide)).c CFr.wc).tr CFr.wc).tr CFr.wc).tr CFr.wc).tr CFr.wc).tr CFr.wc).tr CFr.wc)
  have x0 : clW (wset w (sg 2) 4 (nI 0)) 1 (sg 2) 2 = w (sg 2) 2 := by
    unfold clW
    rw [wset_ne sg_cit, wset_ne sg_cit, wset_ne sg_cit, wset_ne sg_cit, wset_ne sg_cit, wset_ne sg_cit, wset_ne sg_cit, wset_k (by decide)]
  have k0 : ∀ {r : Rs}, Rn none 5 jT_readAll (9, [some (vR (sg 2)), some (vR (cit 1 0))], [], clW (wset w (sg 2) 4 (nI 0)) 1) r → Cl 6 jT_readAll [vR (sg 2), vR (cit 1 0)] w r := by
    intro r kk
    refine Cl.of rfl rfl rfl (lc := [some (vR (sg 2)), some (vR (cit 1 0))]) rfl ?_
    exact Rn.cv 60 rfl rfl rfl rfl rfl sp_clear (by decide) kk
  have m16 : clW (wset w (sg 2) 4 (nI 0)) 1 (cit 1 0) 16 = -(nI 1) := wset_s
  have m14 : clW (wset w (sg 2) 4 (nI 0)) 1 (cit 1 0) 14 = nI 0 := by
    unfold clW
    rw [wset_k (by decide), wset_s]
  have m13 : clW (wset w (sg 2) 4 (nI 0)) 1 (cit 1 0) 13 = nI 0 := by
    unfold clW
    rw [wset_k (by decide), wset_k (by decide), wset_s]
  have m12 : clW (wset w (sg 2) 4 (nI 0)) 1 (cit 1 0) 12 = nI 0 := by
    unfold clW
    rw [wset_k (by decide), wset_k (by decide), wset_k (by decide), wset_s]
  have m4 : clW (wset w (sg 2) 4 (nI 0)) 1 (cit 1 0) 4 = nI 0 := by
    unfold clW
    rw [wset_k (by decide), wset_k (by decide), wset_k (by decide), wset_k (by decide), wset_s]
  have m3 : clW (wset w (sg 2) 4 (nI 0)) 1 (cit 1 0) 3 = nI 0 := by
    unfold clW
    rw [wset_k (by decide), wset_k (by decide), wset_k (by decide), wset_k (by decide), wset_k (by decide), wset_s]
  generalize clW (wset w (sg 2) 4 (nI 0)) 1 = w0 at *
  unfold pCity
  rcases sp_readHead t0 with ⟨f, w', g1, g2, g3, g4⟩ | ⟨v, w1, g1, g2, g3⟩
  · rw [g1]
    refine Or.inl ⟨f, w', rfl, k0 ?_, f0.tr g3, g4⟩
    refine Rn.cv 60 rfl rfl rfl rfl rfl g2 (by decide) ?_
    refine Rn.if1t 60 rfl rfl (by dsimp only [tm_c2P]; decide) ?_
    exact Rn.zr 60 rfl rfl rfl (by decide) rfl
  rw [g1]
  obtain ⟨k1, k2, k3, k4⟩ := id g3
  have hv := pHead_c g1
  have e0 : ∀ j, 3 ≤ j → w1 (cit 1 0) j = w0 (cit 1 0) j := fun j hj => by rw [k4, wset_k (by omega), wset_k (by omega), wset_k (by omega)]
  have hd : Dft w1 (c1 v.1) v.2.1 v.2.2.1 0 (fun _ => 0) := ⟨⟨by rw [k4, wset_k (by decide), wset_k (by decide), wset_s]; rfl, (e0 3 (by decide)).trans m3, (e0 4 (by decide)).trans m4, fun g hg => absurd hg (Nat.not_lt_zero g), fun p hp => absurd hp (Nat.not_lt_zero p)⟩, ⟨by rw [k4, wset_k (by decide), wset_s], by rw [k4, wset_s], (e0 12 (by decide)).trans m12, (e0 13 (by decide)).trans m13, (e0 14 (by decide)).trans m14, fun p hp => absurd hp (Nat.not_lt_zero p)⟩, (e0 16 (by decide)).trans m16⟩
  have k01 : ∀ {r : Rs}, Rn none 5 jT_readAll (17, [some (vR (sg 2)), some (vR (cit 1 0))], [], w1) r → Cl 6 jT_readAll [vR (sg 2), vR (cit 1 0)] w r := by
    intro r kk
    refine k0 ?_
    refine Rn.cv 60 rfl rfl rfl rfl rfl g2 (by decide) ?_
    exact Rn.if1f 60 rfl rfl (by dsimp only [tm_c2P]; decide) kk
  have h01 : 1 ≤ c1 v.1 0 ∧ c1 v.1 0 ≤ 6 := ⟨by show 1 ≤ v.1; omega, by show v.1 ≤ 6; omega⟩
  rcases sp_gates 8 (c1 v.1) 0 v.2.2.2 w1 rfl h01 (Nat.zero_le _) hd k1 with ⟨f, w', g5, g6, g7, g8⟩ | ⟨u, w2, g5, g6, g7, g8, g9, g10⟩
  · refine Or.inl ⟨f, w', ?_, k01 ?_, (f0.tr k2).tr g7, g8⟩
    · show bd (pGs B N 8 (c1 v.1) 0 v.2.2.2) _ = _
      rw [g5]
      rfl
    · have gc : Cl 5 jT_readGates [vR (sg 2), vR (cit 1 0)] w1 (some (vI (bI false)), w') := Cl.of rfl rfl rfl (lc := [some (vR (sg 2)), some (vR (cit 1 0)), none]) rfl (Rn.at 2 rfl g6)
      refine Rn.cv 60 rfl rfl rfl rfl rfl gc (by decide) ?_
      refine Rn.if1t 60 rfl rfl (by dsimp only [tm_c2P]; decide) ?_
      exact Rn.zr 60 rfl rfl rfl (by decide) rfl
  have hc2 := pGs_c 8 (c1 v.1) 0 v.2.2.2 u rfl g5
  have k02 : ∀ {r : Rs}, Rn none 5 jT_readAll (25, [some (vR (sg 2)), some (vR (cit 1 0))], [], w2) r → Cl 6 jT_readAll [vR (sg 2), vR (cit 1 0)] w r := by
    intro r kk
    refine k01 ?_
    have gc : Cl 5 jT_readGates [vR (sg 2), vR (cit 1 0)] w1 (some (vI (bI true)), w2) := Cl.of rfl rfl rfl (lc := [some (vR (sg 2)), some (vR (cit 1 0)), none]) rfl (Rn.at 2 rfl g6)
    refine Rn.cv 60 rfl rfl rfl rfl rfl gc (by decide) ?_
    exact Rn.if1f 60 rfl rfl (by dsimp only [tm_c2P]; decide) kk
  have e4 : u.1 4 = 0 := hc2.2.1
  have eb : ∀ {X : Type} {F : ((Nat → Nat) × Nat × Nat) → Ft ⊕ X}, bd (pGs B N 8 (c1 v.1) 0 v.2.2.2) F = F u := fun {X F} => by rw [g5]; rfl
  have pp := sp_people 5 u.1 (fun _ => 0) u.2.2 w2 none (by omega) (by rw [hc2.1]; exact h01) hc2.2.2 g9 g10
  rw [e4] at pp
  rcases pp with ⟨f, w', g11, g12, g13, g14⟩ | ⟨s, w3, g11, g12, g13, g14, g15⟩
  · refine Or.inl ⟨f, w', ?_, k02 ?_, ((f0.tr k2).tr g7).tr g13, g14⟩
    · show bd (pGs B N 8 (c1 v.1) 0 v.2.2.2) _ = _
      rw [eb, g11]
      rfl
    · have gc : Cl 5 jT_readPeople [vR (sg 2), vR (cit 1 0)] w2 (some (vI (bI false)), w') := Cl.of rfl rfl rfl (lc := [some (vR (sg 2)), some (vR (cit 1 0)), none, none]) rfl (Rn.at 2 rfl g12)
      refine Rn.cv 60 rfl rfl rfl rfl rfl gc (by decide) ?_
      refine Rn.if1t 60 rfl rfl (by dsimp only [tm_c2P]; decide) ?_
      exact Rn.zr 60 rfl rfl rfl (by decide) rfl
  · refine Or.inr ⟨(s.1, v.2.1, v.2.2.1, u.2.1, s.2), w3, ?_, k02 ?_, ((f0.tr k2).tr g7).tr g13, g14.trans (g8.trans (k3.trans x0)), g15⟩
    · show bd (pGs B N 8 (c1 v.1) 0 v.2.2.2) _ = _
      rw [eb, g11]
      rfl
    · have gc : Cl 5 jT_readPeople [vR (sg 2), vR (cit 1 0)] w2 (some (vI (bI true)), w3) := Cl.of rfl rfl rfl (lc := [some (vR (sg 2)), some (vR (cit 1 0)), none, none]) rfl (Rn.at 2 rfl g12)
      refine Rn.cv 60 rfl rfl rfl rfl rfl gc (by decide) ?_
      refine Rn.if1f 60 rfl rfl (by dsimp only [tm_c2P]; decide) ?_
      exact Rn.zr 60 rfl rfl rfl (by decide) rfl
