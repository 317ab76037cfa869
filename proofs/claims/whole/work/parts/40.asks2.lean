/-! steps, votes, as, count -/
theorem Inv.twn {w w' : Wd} (h : Inv w) (ht : TwnI w') (e : ∀ n, n ≠ 5 → n ≠ 9 → Same n w w') : Inv w' := ⟨h.1.same (e 0 (by decide) (by decide)), h.2.1.same (e 1 (by decide) (by decide)), h.2.2.1.same (e 2 (by decide) (by decide)), h.2.2.2.1.same (e 3 (by decide) (by decide)), h.2.2.2.2.1.same (e 4 (by decide) (by decide)), ht⟩
theorem MaIs.fr {w w' : Wd} {b : Nat} {c : Nat → Nat} {nr ti o sp dy : Nat} {wf : Nat → Nat} (h : MaIs w b c nr ti o sp dy wf) (e : w' (sg 17) = w (sg 17)) : MaIs w' b c nr ti o sp dy wf := by
  unfold MaIs
  rw [e]
  exact h
theorem ActI.fr0 {w w' : Wd} {c : Nat → Nat} {nr ti : Nat} {wf : Nat → Nat} (h : ActI w c nr ti wf) (f : Fr 0 w w') : ActI w' c nr ti wf := h.of (fun s _ _ j => by rw [f _ (fun p => sg_cit)]) (by rw [f _ (fun p => sg_cit)]) (fun j => by rw [f _ (fun p => sg_cit)])
theorem Inv.fr0 {w w' : Wd} {c : Nat → Nat} {nr ti o sp dy : Nat} {wf : Nat → Nat} (hi : Inv w) (hb : w (sg 13) 5 = nI 0) (hok : CtOk c nr ti o sp dy wf) (hma : MaIs w 0 c nr ti o sp dy wf) (hact : ActI w c nr ti wf) (f : Fr 0 w w') (hci : CiIs w' 0 c nr ti o sp dy wf) : Inv w' :=
  hi.twn ⟨by rw [f _ (fun p => sg_cit)]; exact hb, c, nr, ti, o, sp, dy, wf, hok, hci, hma.fr (f _ (fun p => sg_cit)), hact.fr0 f⟩ (fun n h5 h9 => Same.fr f (fun p j z => h5 z.symm))
theorem x_measure {w : Wd} {c : Nat → Nat} {nr ti o sp dy : Nat} {wf : Nat → Nat} (hok : CtOk c nr ti o sp dy wf) (hci : CiIs w 0 c nr ti o sp dy wf) : ∃ w', Cl 3 jC_measure [vR (cit 0 0)] w (none, w') ∧ Fr 0 w w' ∧ CiIs w' 0 c nr ti o sp dy wf ∧ Tab w' 0 c o := by
  obtain ⟨w', h1, h2, h3, h4, h5⟩ := sp_measure hok.1 hci.1 hci.2.1.2.2.1 hok.2.1.2.2.1 hci.2.2
  refine ⟨w', h1, fun t ht => h2 t (ht 0) (ht 8), ⟨hci.1.of (h3 0 (by decide)) (h3 3 (by decide)) (h3 4 (by decide)) (fun p p1 p2 => h2 _ (cit_p (by omega)) (cit_p (by omega))), hci.2.1.of h3 (h2 _ (cit_p (by decide)) (cit_p (by decide))), Or.inr ⟨o, hok.2.1.2.2.1, h4, h5⟩⟩, h5⟩
theorem op_steps {x y : Int32} : Op jX_steps jM_steps [vI x, vI y] := by
  intro w hi
  obtain ⟨hb, c, nr, ti, o, sp, dy, wf, hok, hci, hma, hact⟩ := id hi.2.2.2.2.2
  have hpl := hma.pl hb
  have hc := hok.1
  have hc3 := hc.2.1
  have hc4 := hc.2.2.1
  have x4 : w (cit 0 0) 4 = nI (c 4) := hci.1.2.2.1
  have x3 : w (cit 0 0) 3 = nI (c 3) := hci.1.2.1
  rcases pk_or (x := x) (n := c 4) (by omega) with h1 | ⟨p, hp, rfl⟩
  · refine op_same hi (v := -(nI 1000001)) ?_ ?_
    · refine Cl.of rfl rfl rfl (lc := [some (vR (sg 0)), some (vI x), some (vI y), none]) rfl ?_
      refine Rn.cs 60 rfl rfl rfl rfl (by rw [x4]; exact x_no (by omega) h1) (by decide) ?_
      refine Rn.if1t 60 rfl rfl (by dsimp only [tm_c2P]; decide) ?_
      exact Rn.ir 60 rfl rfl rfl rfl
    · refine Cl.of rfl rfl rfl (lc := [some (vR (sg 13)), some (vI x), some (vI y)]) rfl ?_
      refine Rn.cv 60 rfl rfl rfl rfl rfl (m_pno hc hpl h1) (by decide) ?_
      refine Rn.if1t 60 rfl rfl (by dsimp only [tm_c2P]; decide) ?_
      exact Rn.ir 60 rfl rfl rfl rfl
  have cx : ∀ {r0 : Rs}, Rn none 19 jX_steps (14, [some (vR (sg 0)), some (vI (nI p)), some (vI y), none], [], w) r0 → Cl 20 jX_steps [vR (sg 0), vI (nI p), vI y] w r0 := by
    intro r0 k
    refine Cl.of rfl rfl rfl (lc := [some (vR (sg 0)), some (vI (nI p)), some (vI y), none]) rfl ?_
    refine Rn.cs 60 rfl rfl rfl rfl (by rw [x4]; exact x_yes (by omega) hp) (by decide) ?_
    exact Rn.if1f 60 rfl rfl (by dsimp only [tm_c2P]; decide) k
  have cm : ∀ {w : Wd} {r0 : Rs}, MPl w c → Rn none 19 jM_steps (8, [some (vR (sg 13)), some (vI (nI p)), some (vI y)], [], w) r0 → Cl 20 jM_steps [vR (sg 13), vI (nI p), vI y] w r0 := by
    intro w r0 hpl k
    refine Cl.of rfl rfl rfl (lc := [some (vR (sg 13)), some (vI (nI p)), some (vI y)]) rfl ?_
    refine Rn.cv 60 rfl rfl rfl rfl rfl (m_pyes hc hpl hp) (by decide) ?_
    exact Rn.if1f 60 rfl rfl (by dsimp only [tm_c2P]; decide) k
  rcases pk_or (x := y) (n := c 3) (by omega) with h1 | ⟨g, hg, rfl⟩
  · refine op_same hi (v := -(nI 1000001)) (cx ?_) (cm hpl ?_)
    · refine Rn.cs 60 rfl rfl rfl rfl (by rw [x3]; exact x_no (by omega) h1) (by decide) ?_
      refine Rn.if1f 60 rfl rfl (by dsimp only [tm_c2P]; decide) ?_
      exact Rn.ir 60 rfl rfl rfl rfl
    · refine Rn.cv 60 rfl rfl rfl rfl rfl (m_gno hc hpl h1) (by decide) ?_
      refine Rn.if1t 60 rfl rfl (by dsimp only [tm_c2P]; decide) ?_
      exact Rn.ir 60 rfl rfl rfl rfl
  obtain ⟨w1, f1, f2, f3, f4⟩ := x_measure hok hci
  have hi1 := hi.fr0 hb hok hma hact f2 f3
  have e13 : w1 (sg 13) = w (sg 13) := f2 _ (fun p => sg_cit)
  have e17 : w1 (sg 17) = w (sg 17) := f2 _ (fun p => sg_cit)
  have hb1 : w1 (sg 13) 5 = nI 0 := by rw [e13]; exact hb
  have hma1 := hma.fr e17
  have hpl1 := hma1.pl hb1
  have h100 : st c o p g ≤ 100 := stT_100 6
  refine ⟨w1, w1, sI (st c o p g), cx ?_, cm hpl1 ?_, hi1⟩
  · refine Rn.cs 60 rfl rfl rfl rfl (by rw [x3]; exact x_yes (by omega) hg) (by decide) ?_
    refine Rn.if1t 60 rfl rfl (by dsimp only [tm_c2P]; decide) ?_
    refine Rn.cv 60 rfl rfl rfl rfl rfl f1 (by decide) ?_
    refine Rn.cv 60 rfl rfl rfl rfl rfl (sp_stepsOf hc f4 hp hg) (by decide) ?_
    unfold sI
    by_cases e : st c o p g = 100
    · rw [if_pos e, e]
      refine Rn.if2f 60 rfl rfl (by dsimp only [tm_c2P]; decide) ?_
      exact Rn.ir 60 rfl rfl rfl rfl
    · rw [if_neg e]
      refine Rn.if2t 60 rfl rfl (by dsimp only [tm_c2P]; rw [nI_eq (by omega) (by decide)]; exact e) ?_
      exact Rn.ir 60 rfl rfl rfl rfl
  · refine Rn.cv 60 rfl rfl rfl rfl rfl (m_gyes hc hpl1 hg) (by decide) ?_
    refine Rn.if1f 60 rfl rfl (by dsimp only [tm_c2P]; decide) ?_
    refine Rn.cv 60 rfl rfl rfl rfl rfl (m_ho hc hpl1 hp) (by decide) ?_
    refine Rn.cv 60 rfl rfl rfl rfl rfl (m_get (k := 6) (v := nI o) hb1 rfl (by decide) hma1.2.2.2.2.2.2.1) (by decide) ?_
    refine Rn.cv 60 rfl rfl rfl rfl rfl (m_stepsBy hc hpl1 hok.2.1.2.2.1 (hc.2.2.2.2 p hp).2.1 hg) (by decide) ?_
    exact Rn.ir 60 rfl rfl rfl rfl
theorem Inv.mfr {w w' : Wd} (hi : Inv w) (f : MFr w w') : Inv w' := hi.same (fun n hn => f.same (by omega))
theorem op_votes {x y : Int32} : Op jX_votes jM_votes [vI x, vI y] := by
  intro w hi
  obtain ⟨hb, c, nr, ti, o, sp, dy, wf, hok, hci, hma, hact⟩ := id hi.2.2.2.2.2
  have hpl := hma.pl hb
  have hc := hok.1
  have hc3 := hc.2.1
  have x3 : w (cit 0 0) 3 = nI (c 3) := hci.1.2.1
  rcases pk_or (x := x) (n := c 3) (by omega) with h1 | ⟨g, hg, rfl⟩
  · refine op_same hi (v := -(nI 1000001)) ?_ ?_
    · refine Cl.of rfl rfl rfl (lc := [some (vR (sg 0)), some (vI x), some (vI y)]) rfl ?_
      refine Rn.cs 60 rfl rfl rfl rfl (by rw [x3]; exact x_no (by omega) h1) (by decide) ?_
      refine Rn.if1t 60 rfl rfl (by dsimp only [tm_c2P]; decide) ?_
      exact Rn.ir 60 rfl rfl rfl rfl
    · refine Cl.of rfl rfl rfl (lc := [some (vR (sg 13)), some (vI x), some (vI y)]) rfl ?_
      refine Rn.cv 60 rfl rfl rfl rfl rfl (m_gno hc hpl h1) (by decide) ?_
      refine Rn.if1t 60 rfl rfl (by dsimp only [tm_c2P]; decide) ?_
      exact Rn.ir 60 rfl rfl rfl rfl
  have cx : ∀ {r0 : Rs}, Rn none 19 jX_votes (14, [some (vR (sg 0)), some (vI (nI g)), some (vI y)], [], w) r0 → Cl 20 jX_votes [vR (sg 0), vI (nI g), vI y] w r0 := by
    intro r0 k
    refine Cl.of rfl rfl rfl (lc := [some (vR (sg 0)), some (vI (nI g)), some (vI y)]) rfl ?_
    refine Rn.cs 60 rfl rfl rfl rfl (by rw [x3]; exact x_yes (by omega) hg) (by decide) ?_
    exact Rn.if1f 60 rfl rfl (by dsimp only [tm_c2P]; decide) k
  have cm : ∀ {w : Wd} {r0 : Rs}, MPl w c → Rn none 19 jM_votes (8, [some (vR (sg 13)), some (vI (nI g)), some (vI y)], [], w) r0 → Cl 20 jM_votes [vR (sg 13), vI (nI g), vI y] w r0 := by
    intro w r0 hpl k
    refine Cl.of rfl rfl rfl (lc := [some (vR (sg 13)), some (vI (nI g)), some (vI y)]) rfl ?_
    refine Rn.cv 60 rfl rfl rfl rfl rfl (m_gyes hc hpl hg) (by decide) ?_
    exact Rn.if1f 60 rfl rfl (by dsimp only [tm_c2P]; decide) k
  rcases pk_or (x := y) (n := 2) (by omega) with h1 | ⟨k, hk, rfl⟩
  · refine op_same hi (v := -(nI 1000001)) (cx ?_) (cm hpl ?_)
    · refine Rn.if1 60 rfl rfl (fun _ => Rn.ir 60 rfl rfl rfl rfl) (fun h2 => ?_)
      refine Rn.if2f 60 rfl rfl (Int32.not_le.mpr (nI_lt1 (n := 1) (by decide) (h1.resolve_left h2))) ?_
      exact Rn.ir 60 rfl rfl rfl rfl
    · refine Rn.cs 60 rfl rfl rfl rfl (m_no (n := 1) (by decide) h1) (by decide) ?_
      refine Rn.if1f 60 rfl rfl (by dsimp only [tm_c2P]; decide) ?_
      exact Rn.ir 60 rfl rfl rfl rfl
  obtain ⟨w1, f1, f2, f3, f4⟩ := x_measure hok hci
  have hi1 := hi.fr0 hb hok hma hact f2 f3
  have e13 : w1 (sg 13) = w (sg 13) := f2 _ (fun p => sg_cit)
  have e17 : w1 (sg 17) = w (sg 17) := f2 _ (fun p => sg_cit)
  have hb1 : w1 (sg 13) 5 = nI 0 := by rw [e13]; exact hb
  have hma1 := hma.fr e17
  have hpl1 := hma1.pl hb1
  obtain ⟨w2, b1, b2, b3⟩ := m_begin hc hb1 hma1
  have hpl2 := hpl1.mfr b2
  have e : ∀ k, k < 2 → ∃ b, (if k = 0 then true else false) = b ∧ Rn none 19 jX_votes (23 + 24, [some (vR (sg 0)), some (vI (nI g)), some (vI (nI k))], [vI (bI b), vI (nI g), vR (cit 0 0)], w1) (some (vI (nI (su c nr o wf g b))), w1) ∧ Rn none 19 jM_votes (35, [some (vR (sg 13)), some (vI (nI g)), some (vI (nI k))], [vI (bI b), vI (nI g), vR (sg 13)], w2) (some (vI (nI (su c nr o wf g b))), w2) := by
    intro k hk
    refine ⟨_, rfl, ?_, ?_⟩
    · refine Rn.cv 60 rfl rfl rfl rfl rfl (sp_sumOf _ hc f3.1 f3.2.1 hok.2.1 f4 hg) (by decide) ?_
      exact Rn.ir 60 rfl rfl rfl rfl
    · refine Rn.cv 60 rfl rfl rfl rfl rfl (m_sumOf _ hc hpl2 b3 hok.2.1 hg) (by decide) ?_
      exact Rn.ir 60 rfl rfl rfl rfl
  obtain ⟨b, eb, r1, r2⟩ := e k hk
  refine ⟨w1, w2, nI (su c nr o wf g b), cx ?_, cm hpl1 ?_, hi1.mfr b2⟩
  · refine Rn.if1f 60 rfl rfl (nI_pos (by omega)) ?_
    refine Rn.if2t 60 rfl rfl (nI_le (by omega) (by decide)) ?_
    refine Rn.cv 60 rfl rfl rfl rfl rfl f1 (by decide) ?_
    rcases (by omega : k = 0 ∨ k = 1) with rfl | rfl
    · subst eb
      refine Rn.if1f 60 rfl rfl (by dsimp only [tm_c2P]; decide) ?_
      exact Rn.at 2 rfl r1
    · subst eb
      refine Rn.if1t 60 rfl rfl (by dsimp only [tm_c2P]; decide) ?_
      exact Rn.at 1 rfl r1
  · refine Rn.cs 60 rfl rfl rfl rfl (m_yes (n := 1) (by decide) (by omega)) (by decide) ?_
    refine Rn.if1t 60 rfl rfl (by dsimp only [tm_c2P]; decide) ?_
    refine Rn.cv 60 rfl rfl rfl rfl rfl b1 (by decide) ?_
    rcases (by omega : k = 0 ∨ k = 1) with rfl | rfl
    · subst eb
      refine Rn.if1f 60 rfl rfl (by dsimp only [tm_c2P]; decide) ?_
      exact Rn.at 2 rfl r2
    · subst eb
      refine Rn.if1t 60 rfl rfl (by dsimp only [tm_c2P]; decide) ?_
      exact Rn.at 1 rfl r2
def kdN (s k : Nat) : Bool := if k = 0 then true else if k = 1 then decide (s = 1) || decide (s = 2) || decide (s = 3) else if k = 4 then decide (s = 4) || decide (s = 5) else decide (s = k)
theorem x_isOfKind {w : Wd} {s k : Nat} (hs : s ≤ 5) (hk : k ≤ 5) : Cl 1 jX_isOfKind [vI (nI s), vI (nI k)] w (some (vI (bI (kdN s k))), w) := by
  refine Cl.of rfl rfl rfl (lc := [some (vI (nI s)), some (vI (nI k))]) rfl ?_
  have hs : s = 0 ∨ s = 1 ∨ s = 2 ∨ s = 3 ∨ s = 4 ∨ s = 5 := by omega
  have hk : k = 0 ∨ k = 1 ∨ k = 2 ∨ k = 3 ∨ k = 4 ∨ k = 5 := by omega
  rcases hk with rfl | rfl | rfl | rfl | rfl | rfl
  · refine Rn.tsw 60 (t := 36) rfl rfl rfl ?_
    exact Rn.zr 60 rfl rfl rfl (by decide) rfl
  · refine Rn.tsw 60 (t := 38) rfl rfl rfl ?_
    rcases hs with rfl | rfl | rfl | rfl | rfl | rfl
    all_goals
      refine Rn.if2 60 rfl rfl (fun h => ?_) (fun h => ?_)
      · first
        | exact absurd h (by dsimp only [tm_c2P]; decide)
        | exact Rn.zr 60 rfl rfl rfl (by decide) rfl
      · refine Rn.if2 60 rfl rfl (fun h => ?_) (fun h => ?_)
        · first
          | exact absurd h (by dsimp only [tm_c2P]; decide)
          | exact Rn.zr 60 rfl rfl rfl (by decide) rfl
        · refine Rn.if2 60 rfl rfl (fun h => ?_) (fun h => ?_)
          all_goals first
            | exact absurd h (by dsimp only [tm_c2P]; decide)
            | (rename_i h0 h1; exact absurd h0 (by dsimp only [tm_c2P]; decide))
            | (rename_i h0 h1; exact absurd h1 (by dsimp only [tm_c2P]; decide))
            | exact Rn.zr 60 rfl rfl rfl (by decide) rfl
  · refine Rn.tsw 60 (t := 75) rfl rfl rfl ?_
    rcases hs with rfl | rfl | rfl | rfl | rfl | rfl
    all_goals
      refine Rn.if2 60 rfl rfl (fun h => ?_) (fun h => ?_)
      all_goals first
        | exact absurd h (by dsimp only [tm_c2P]; decide)
        | exact Rn.zr 60 rfl rfl rfl (by decide) rfl
  · refine Rn.tsw 60 (t := 75) rfl rfl rfl ?_
    rcases hs with rfl | rfl | rfl | rfl | rfl | rfl
    all_goals
      refine Rn.if2 60 rfl rfl (fun h => ?_) (fun h => ?_)
      all_goals first
        | exact absurd h (by dsimp only [tm_c2P]; decide)
        | exact Rn.zr 60 rfl rfl rfl (by decide) rfl
  · refine Rn.tsw 60 (t := 59) rfl rfl rfl ?_
    rcases hs with rfl | rfl | rfl | rfl | rfl | rfl
    all_goals
      refine Rn.if2 60 rfl rfl (fun h => ?_) (fun h => ?_)
      · first
        | exact absurd h (by dsimp only [tm_c2P]; decide)
        | exact Rn.zr 60 rfl rfl rfl (by decide) rfl
      · refine Rn.if2 60 rfl rfl (fun h => ?_) (fun h => ?_)
        all_goals first
          | exact absurd h (by dsimp only [tm_c2P]; decide)
          | (rename_i h0; exact absurd h0 (by dsimp only [tm_c2P]; decide))
          | exact Rn.zr 60 rfl rfl rfl (by decide) rfl
  · refine Rn.tsw 60 (t := 75) rfl rfl rfl ?_
    rcases hs with rfl | rfl | rfl | rfl | rfl | rfl
    all_goals
      refine Rn.if2 60 rfl rfl (fun h => ?_) (fun h => ?_)
      all_goals first
        | exact absurd h (by dsimp only [tm_c2P]; decide)
        | exact Rn.zr 60 rfl rfl rfl (by decide) rfl
