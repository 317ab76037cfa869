/-! as, count -/
theorem kdN_is : ∀ s, s < 6 → ∀ k, k < 6 → (kdN s k = (decide (k = 0) || decide (k = s) || (decide (k = 1) && (decide (2 ≤ s) && decide (s ≤ 3))) || (decide (k = 4) && decide (s = 5)))) := by decide
theorem m_isOne {w : Wd} {s k : Nat} (hs : s ≤ 5) (hk : k ≤ 5) : Cl 2 jM_isOne [vI (nI s), vI (nI k)] w (some (vI (bI (kdN s k))), w) := by
  rw [kdN_is s (by omega) k (by omega)]
  refine Cl.of rfl rfl rfl (lc := [some (vI (nI s)), some (vI (nI k))]) rfl ?_
  have yes : ∀ b, b = true → Rn none 1 jM_isOne (33, [some (vI (nI s)), some (vI (nI k))], [], w) (some (vI (bI b)), w) := by
    intro b hb
    subst hb
    exact Rn.zr 60 rfl rfl rfl (by decide) rfl
  have no : ∀ b, b = false → Rn none 1 jM_isOne (37, [some (vI (nI s)), some (vI (nI k))], [], w) (some (vI (bI b)), w) := by
    intro b hb
    subst hb
    exact Rn.zr 60 rfl rfl rfl (by decide) rfl
  refine Rn.if1 60 rfl rfl (fun h => ?_) (fun h => ?_)
  · dsimp only [tm_c2P] at h
    rw [nJ_eq0 (by omega)] at h
    exact yes _ (by simp [h])
  dsimp only [tm_c2P] at h
  rw [nJ_eq0 (by omega)] at h
  refine Rn.if2 60 rfl rfl (fun h2 => ?_) (fun h2 => ?_)
  · dsimp only [tm_c2P] at h2
    rw [nI_eq (by omega) (by omega)] at h2
    exact yes _ (by simp [h2])
  dsimp only [tm_c2P] at h2
  rw [nI_eq (by omega) (by omega)] at h2
  have tl : ¬ (k = 1 ∧ 2 ≤ s ∧ s ≤ 3) → Rn none 1 jM_isOne (23, [some (vI (nI s)), some (vI (nI k))], [], w) (some (vI (bI (decide (k = 0) || decide (k = s) || (decide (k = 1) && (decide (2 ≤ s) && decide (s ≤ 3))) || (decide (k = 4) && decide (s = 5))))), w) := by
    intro hn
    have hn2 : (decide (k = 1) && (decide (2 ≤ s) && decide (s ≤ 3))) = false := by
      rw [Bool.eq_false_iff]
      intro z
      simp only [Bool.and_eq_true, decide_eq_true_eq] at z
      exact hn z
    rw [hn2]
    by_cases e4 : k = 4
    · refine Rn.if2f 60 rfl rfl (by dsimp only [tm_c2P]; rw [e4]; exact fun z => z rfl) ?_
      by_cases e5 : s = 5
      · refine Rn.if2f 60 rfl rfl (by dsimp only [tm_c2P]; rw [e5]; exact fun z => z rfl) ?_
        exact yes _ (by simp [e4, e5])
      · refine Rn.if2t 60 rfl rfl (by dsimp only [tm_c2P]; rw [nI_eq (by omega) (by omega)]; exact e5) ?_
        exact no _ (by simp [h, h2, e5])
    · refine Rn.if2t 60 rfl rfl (by dsimp only [tm_c2P]; rw [nI_eq (by omega) (by omega)]; exact e4) ?_
      exact no _ (by simp [h, h2, e4])
  by_cases e1 : k = 1
  · refine Rn.if2f 60 rfl rfl (by dsimp only [tm_c2P]; rw [e1]; exact fun z => z rfl) ?_
    have mi := m_in (w := w) (x := nI s) (y := nI 2) (z := nI 3)
    have d2 : decide (nI 2 ≤ nI s) = decide (2 ≤ s) := decide_eq_decide.mpr (nJ_le (by omega) (by omega))
    have d3 : decide (nI s ≤ nI 3) = decide (s ≤ 3) := decide_eq_decide.mpr (nJ_le (by omega) (by omega))
    rw [d2, d3] at mi
    refine Rn.cs 60 rfl rfl rfl rfl mi (by decide) ?_
    by_cases e : 2 ≤ s ∧ s ≤ 3
    · refine Rn.if1t 60 rfl rfl (by dsimp only [tm_c2P]; rw [bI_eq0, decide_eq_true e.1, decide_eq_true e.2]; decide) ?_
      exact yes _ (by simp [e1, e.1, e.2])
    · refine Rn.if1f 60 rfl rfl (by
        dsimp only [tm_c2P]
        rw [bI_eq0, Classical.not_not, Bool.eq_false_iff]
        intro z
        simp only [Bool.and_eq_true, decide_eq_true_eq] at z
        exact e z) ?_
      exact tl (fun z => e z.2)
  · refine Rn.if2t 60 rfl rfl (by dsimp only [tm_c2P]; rw [nI_eq (by omega) (by omega)]; exact e1) ?_
    exact tl (fun z => e1 z.1)
theorem op_as {x y : Int32} : Op jX_as jM_as [vI x, vI y] := by
  intro w hi
  obtain ⟨hb, c, nr, ti, o, sp, dy, wf, hok, hci, hma, hact⟩ := id hi.2.2.2.2.2
  have hpl := hma.pl hb
  have hc := hok.1
  have hc4 := hc.2.2.1
  have x4 : w (cit 0 0) 4 = nI (c 4) := hci.1.2.2.1
  rcases pk_or (x := x) (n := c 4) (by omega) with h1 | ⟨p, hp, rfl⟩
  · refine op_same hi (v := -(nI 1000001)) ?_ ?_
    · refine Cl.of rfl rfl rfl (lc := [some (vR (sg 0)), some (vI x), some (vI y)]) rfl ?_
      refine Rn.cs 60 rfl rfl rfl rfl (by rw [x4]; exact x_no (by omega) h1) (by decide) ?_
      refine Rn.if1t 60 rfl rfl (by dsimp only [tm_c2P]; decide) ?_
      exact Rn.ir 60 rfl rfl rfl rfl
    · refine Cl.of rfl rfl rfl (lc := [some (vR (sg 13)), some (vI x), some (vI y)]) rfl ?_
      refine Rn.cv 60 rfl rfl rfl rfl rfl (m_pno hc hpl h1) (by decide) ?_
      refine Rn.if1t 60 rfl rfl (by dsimp only [tm_c2P]; decide) ?_
      exact Rn.ir 60 rfl rfl rfl rfl
  have cx : ∀ {r0 : Rs}, Rn none 19 jX_as (14, [some (vR (sg 0)), some (vI (nI p)), some (vI y)], [], w) r0 → Cl 20 jX_as [vR (sg 0), vI (nI p), vI y] w r0 := by
    intro r0 k
    refine Cl.of rfl rfl rfl (lc := [some (vR (sg 0)), some (vI (nI p)), some (vI y)]) rfl ?_
    refine Rn.cs 60 rfl rfl rfl rfl (by rw [x4]; exact x_yes (by omega) hp) (by decide) ?_
    exact Rn.if1f 60 rfl rfl (by dsimp only [tm_c2P]; decide) k
  have cm : ∀ {w : Wd} {r0 : Rs}, MPl w c → Rn none 19 jM_as (8, [some (vR (sg 13)), some (vI (nI p)), some (vI y)], [], w) r0 → Cl 20 jM_as [vR (sg 13), vI (nI p), vI y] w r0 := by
    intro w r0 hpl k
    refine Cl.of rfl rfl rfl (lc := [some (vR (sg 13)), some (vI (nI p)), some (vI y)]) rfl ?_
    refine Rn.cv 60 rfl rfl rfl rfl rfl (m_pyes hc hpl hp) (by decide) ?_
    exact Rn.if1f 60 rfl rfl (by dsimp only [tm_c2P]; decide) k
  rcases pk_or (x := y) (n := 6) (by omega) with h1 | ⟨k, hk, rfl⟩
  · refine op_same hi (v := -(nI 1000001)) (cx ?_) (cm hpl ?_)
    · refine Rn.if1 60 rfl rfl (fun _ => Rn.ir 60 rfl rfl rfl rfl) (fun h2 => ?_)
      refine Rn.if2f 60 rfl rfl (Int32.not_le.mpr (nI_lt1 (n := 5) (by decide) (h1.resolve_left h2))) ?_
      exact Rn.ir 60 rfl rfl rfl rfl
    · refine Rn.cs 60 rfl rfl rfl rfl (m_no (n := 5) (by decide) h1) (by decide) ?_
      refine Rn.if1f 60 rfl rfl (by dsimp only [tm_c2P]; decide) ?_
      exact Rn.ir 60 rfl rfl rfl rfl
  have s5 := (hc.2.2.2.2 p hp).1
  have dx : ∀ {r0 : Rs}, Rn none 19 jX_as (39, [some (vR (sg 0)), some (vI (nI p)), some (vI (nI k))], [vI (bI (kdN (so c p) k))], w) r0 → Cl 20 jX_as [vR (sg 0), vI (nI p), vI (nI k)] w r0 := by
    intro r0 kk
    refine cx ?_
    refine Rn.if1f 60 rfl rfl (nI_pos (by omega)) ?_
    refine Rn.if2t 60 rfl rfl (nI_le (by omega) (by decide)) ?_
    refine Rn.al 60 rfl rfl rfl rfl (by omega) ?_
    rw [(hci.1.2.2.2.2 p hp).1]
    exact Rn.cs 60 rfl rfl rfl rfl (x_isOfKind s5 (by omega)) (by decide) kk
  have dm : ∀ {w : Wd} {r0 : Rs}, MPl w c → Rn none 19 jM_as (30, [some (vR (sg 13)), some (vI (nI p)), some (vI (nI k))], [vI (bI (kdN (so c p) k))], w) r0 → Cl 20 jM_as [vR (sg 13), vI (nI p), vI (nI k)] w r0 := by
    intro w r0 hpl kk
    refine cm hpl ?_
    refine Rn.cs 60 rfl rfl rfl rfl (m_yes (n := 5) (by decide) (by omega)) (by decide) ?_
    refine Rn.if1t 60 rfl rfl (by dsimp only [tm_c2P]; decide) ?_
    refine Rn.cv 60 rfl rfl rfl rfl rfl (m_so hc hpl hp) (by decide) ?_
    exact Rn.cs 60 rfl rfl rfl rfl (m_isOne s5 (by omega)) (by decide) kk
  have hpl2 : ∀ x, MPl (wset w (sg 0) 8 x) c := fun x => hpl.fr (by rw [wset_ne (by decide)]) (wset_ne (by decide))
  cases hb : kdN (so c p) k with
  | true =>
    rw [hb] at dx dm
    refine ⟨wset w (sg 0) 8 (nI 0), wset (wset w (sg 0) 8 (nI 0)) (sg 13) 3 (nI 0), nI p, dx ?_, dm (hpl2 _) ?_, hi.fin⟩
    · refine Rn.if1f 60 rfl rfl (by dsimp only [tm_c2P]; decide) ?_
      refine Rn.cv 60 rfl rfl rfl rfl rfl x_clean (by decide) ?_
      exact Rn.ir 60 rfl rfl rfl rfl
    · refine Rn.if1f 60 rfl rfl (by dsimp only [tm_c2P]; decide) ?_
      refine Rn.cv 60 rfl rfl rfl rfl rfl m_well (by decide) ?_
      exact Rn.ir 60 rfl rfl rfl rfl
  | false =>
    rw [hb] at dx dm
    refine op_found hi (x := nI 3) (v := -(nI 1000010) - nI 3) (dx ?_) (dm (hpl2 _) ?_)
    · refine Rn.if1t 60 rfl rfl (by dsimp only [tm_c2P]; decide) ?_
      refine Rn.cv 60 rfl rfl rfl rfl rfl x_found (by decide) ?_
      exact Rn.ir 60 rfl rfl rfl rfl
    · refine Rn.if1t 60 rfl rfl (by dsimp only [tm_c2P]; decide) ?_
      refine Rn.cv 60 rfl rfl rfl rfl rfl m_finds (by decide) ?_
      exact Rn.ir 60 rfl rfl rfl rfl
def thN (w : Wd) : Nat → Nat → Nat → Nat
  | 0, _, a => a
  | n + 1, i, a => thN w n (i + 1) (if w (sg 14) i = nI 0 then a else a + 1)
theorem x_rowsThere {w : Wd} (hi : RowsI w) : Cl 1 jX_rowsThere [vR (sg 0)] w (some (vI (nI (thN w 8 0 0))), w) := by
  have key : ∀ n i a, i + n = 8 → Rn none 0 jX_rowsThere (4, [some (vR (sg 0)), some (vI (nI a)), some (vI (nI i))], [], w) (some (vI (nI (thN w n i a))), w) := by
    intro n
    induction n with
    | zero =>
      intro i a hin
      obtain rfl : i = 8 := by omega
      refine Rn.if2t 60 rfl rfl (by dsimp only [tm_c2P]; decide) ?_
      exact Rn.ir 60 rfl rfl rfl rfl
    | succ n ih =>
      intro i a hin
      refine Rn.if2f 60 rfl rfl (nI_ge (by omega) (by omega)) ?_
      refine Rn.row 60 rfl rfl rfl (by omega) ?_
      unfold thN
      rcases hi i (by omega) with ⟨h1, h2⟩ | ⟨h1, l, m, g1, g2, g3, g4, g5⟩
      · rw [if_pos h2]
        have k := ih (i + 1) a (by omega)
        rw [nI_succ i] at k
        refine Rn.if1t 60 rfl rfl (by rw [h1]; dsimp only [tm_c2P]; decide) ?_
        exact Rn.at 2 rfl k
      · rw [if_neg (by rw [g4, nI_eq (by omega) (by omega)]; omega)]
        have k := ih (i + 1) (a + 1) (by omega)
        rw [nI_succ i, nI_succ a] at k
        refine Rn.if1f 60 rfl rfl (by rw [h1]; dsimp only [tm_c2P]; decide) ?_
        exact Rn.at 3 rfl k
  refine Cl.of rfl rfl rfl (lc := [some (vR (sg 0)), none, none]) rfl ?_
  exact Rn.at 4 rfl (key 8 0 0 (by omega))
theorem op_count {x : Int32} : Op jX_count jM_count [vI x] := by
  intro w hi
  obtain ⟨hb, c, nr, ti, o, sp, dy, wf, hok, hci, hma, hact⟩ := id hi.2.2.2.2.2
  obtain ⟨m1, m2, m3, m4, m5, m6, m7, m8, m9, m10⟩ := id hma
  simp only [Nat.zero_add] at m1 m4 m5 m6 m7 m8
  obtain ⟨d1, d2, d3, d4, d5, d6⟩ := hci.2.1
  have cm : ∀ {r0 : Rs}, Rn none 19 jM_count (33, [some (vR (sg 13)), some (vI x), some (vI (nI (thN w 8 0 0))), some (vI (nI 8))], [], w) r0 → Cl 20 jM_count [vR (sg 13), vI x] w r0 := by
    intro r0 k
    have key : ∀ n i a, i + n = 8 → thN w n i a = thN w 8 0 0 → Rn none 19 jM_count (4, [some (vR (sg 13)), some (vI x), some (vI (nI a)), some (vI (nI i))], [], w) r0 := by
      intro n
      induction n with
      | zero =>
        intro i a hin he
        obtain rfl : i = 8 := by omega
        rw [show a = thN w 8 0 0 from he]
        exact Rn.if2t 60 rfl rfl (by dsimp only [tm_c2P]; decide) k
      | succ n ih =>
        intro i a hin he
        refine Rn.if2f 60 rfl rfl (nI_ge (by omega) (by omega)) ?_
        refine Rn.al 60 rfl rfl rfl rfl (by omega) ?_
        unfold thN at he
        by_cases h : w (sg 14) i = nI 0
        · rw [if_pos h] at he
          have k := ih (i + 1) (a + 0) (by omega) he
          rw [nI_succ i, ← nI_add] at k
          refine Rn.if1f 60 rfl rfl (fun z => z h) ?_
          exact Rn.at 6 rfl k
        · rw [if_neg h] at he
          have k := ih (i + 1) (a + 1) (by omega) he
          rw [nI_succ i, ← nI_add] at k
          refine Rn.if1t 60 rfl rfl h ?_
          exact Rn.at 5 rfl k
    refine Cl.of rfl rfl rfl (lc := [some (vR (sg 13)), some (vI x), none, none]) rfl ?_
    exact Rn.at 4 rfl (key 8 0 0 (by omega) rfl)
  have cx : ∀ {r0 : Rs}, Rn none 19 jX_count (0, [some (vR (sg 0)), some (vI x)], [], w) r0 → Cl 20 jX_count [vR (sg 0), vI x] w r0 := fun k => Cl.of rfl rfl rfl rfl k
  rcases pk_or (x := x) (n := 9) (by omega) with h1 | ⟨k, hk, rfl⟩
  · refine op_same hi (v := -(nI 1000001)) (cx ?_) (cm ?_)
    · refine Rn.tsw 60 (t := 121) rfl rfl (tsw_out 8 rfl (by decide) h1 rfl) ?_
      exact Rn.ir 60 rfl rfl rfl rfl
    · refine Rn.tsw 60 (t := 134) rfl rfl (tsw_out 8 rfl (by decide) h1 rfl) ?_
      exact Rn.ir 60 rfl rfl rfl rfl
  obtain ⟨e1, am, ax, aS, a1, a2, a3, a4, a5⟩ : w (sg 5) 0 = w (sg 13) 8 ∧ ∃ m x S, m ≤ 24 ∧ x < 24 ∧ AcC w (c 4) m x S ∧ AcM w (c 4) m S wf ∧ ∀ i, i < m → CtOk c nr ti (S i).1 (S i).2.1 (S i).2.2.1 (S i).2.2.2 := by
    obtain ⟨m, x, S, a1, a2, a3, a4, a5⟩ := hact
    exact ⟨a3.1.trans a4.1.symm, m, x, S, a1, a2, a3, a4, a5⟩
  obtain ⟨g0, n, g1, g2, g3, g4⟩ := hi.2.2.1
  have hk : k = 0 ∨ k = 1 ∨ k = 2 ∨ k = 3 ∨ k = 4 ∨ k = 5 ∨ k = 6 ∨ k = 7 ∨ k = 8 := by omega
  rcases hk with rfl | rfl | rfl | rfl | rfl | rfl | rfl | rfl | rfl
  · refine op_same hi (v := nI (thN w 8 0 0)) (cx ?_) (cm ?_)
    · refine Rn.tsw 60 (t := 52) rfl rfl rfl ?_
      refine Rn.cv 60 rfl rfl rfl rfl rfl (x_rowsThere hi.2.1) (by decide) ?_
      exact Rn.ir 60 rfl rfl rfl rfl
    · refine Rn.tsw 60 (t := 84) rfl rfl rfl ?_
      exact Rn.ir 60 rfl rfl rfl rfl
  · refine op_same hi (v := nI (c 0)) (cx ?_) (cm ?_)
    · refine Rn.tsw 60 (t := 57) rfl rfl rfl ?_
      rw [← hci.1.1]
      exact Rn.ir 60 rfl rfl rfl rfl
    · refine Rn.tsw 60 (t := 86) rfl rfl rfl ?_
      refine Rn.cv 60 rfl rfl rfl rfl rfl (m_get hb rfl (by decide) m1) (by decide) ?_
      exact Rn.ir 60 rfl rfl rfl rfl
  · refine op_same hi (v := nI (c 3)) (cx ?_) (cm ?_)
    · refine Rn.tsw 60 (t := 65) rfl rfl rfl ?_
      rw [← hci.1.2.1]
      exact Rn.ir 60 rfl rfl rfl rfl
    · refine Rn.tsw 60 (t := 92) rfl rfl rfl ?_
      refine Rn.cv 60 rfl rfl rfl rfl rfl (m_get hb rfl (by decide) m4) (by decide) ?_
      exact Rn.ir 60 rfl rfl rfl rfl
  · refine op_same hi (v := nI (c 4)) (cx ?_) (cm ?_)
    · refine Rn.tsw 60 (t := 73) rfl rfl rfl ?_
      rw [← hci.1.2.2.1]
      exact Rn.ir 60 rfl rfl rfl rfl
    · refine Rn.tsw 60 (t := 98) rfl rfl rfl ?_
      refine Rn.cv 60 rfl rfl rfl rfl rfl (m_get hb rfl (by decide) m5) (by decide) ?_
      exact Rn.ir 60 rfl rfl rfl rfl
  · refine op_same hi (v := nI dy) (cx ?_) (cm ?_)
    · refine Rn.tsw 60 (t := 81) rfl rfl rfl ?_
      rw [← d5]
      exact Rn.ir 60 rfl rfl rfl rfl
    · refine Rn.tsw 60 (t := 104) rfl rfl rfl ?_
      refine Rn.cv 60 rfl rfl rfl rfl rfl (m_get hb rfl (by decide) m6) (by decide) ?_
      exact Rn.ir 60 rfl rfl rfl rfl
  · refine op_same hi (v := nI o) (cx ?_) (cm ?_)
    · refine Rn.tsw 60 (t := 89) rfl rfl rfl ?_
      rw [← d3]
      exact Rn.ir 60 rfl rfl rfl rfl
    · refine Rn.tsw 60 (t := 110) rfl rfl rfl ?_
      refine Rn.cv 60 rfl rfl rfl rfl rfl (m_get hb rfl (by decide) m7) (by decide) ?_
      exact Rn.ir 60 rfl rfl rfl rfl
  · refine op_same hi (v := nI sp) (cx ?_) (cm ?_)
    · refine Rn.tsw 60 (t := 97) rfl rfl rfl ?_
      rw [← d4]
      exact Rn.ir 60 rfl rfl rfl rfl
    · refine Rn.tsw 60 (t := 117) rfl rfl rfl ?_
      refine Rn.cv 60 rfl rfl rfl rfl rfl (m_get hb rfl (by decide) m8) (by decide) ?_
      exact Rn.ir 60 rfl rfl rfl rfl
  · refine op_same hi (v := w (sg 5) 0) (cx ?_) (cm ?_)
    · refine Rn.tsw 60 (t := 105) rfl rfl rfl ?_
      exact Rn.ir 60 rfl rfl rfl rfl
    · refine Rn.tsw 60 (t := 124) rfl rfl rfl ?_
      rw [e1]
      exact Rn.ir 60 rfl rfl rfl rfl
  · refine op_same hi (v := w (sg 2) 1) (cx ?_) (cm ?_)
    · refine Rn.tsw 60 (t := 113) rfl rfl rfl ?_
      exact Rn.ir 60 rfl rfl rfl rfl
    · refine Rn.tsw 60 (t := 129) rfl rfl rfl ?_
      rw [g2, ← g3]
      exact Rn.ir 60 rfl rfl rfl rfl
