/-! the reference's town: walled in, glad, votes, dawn -/
theorem m_isWalledIn {w : Wd} {c : Nat → Nat} {o p : Nat} (hc : PlOk c) (h : MPl w c) (h8 : o < 256) (hp : p < c 4) : Cl 3 jM_isWalledIn [vR (sg 13), vI (nI p), vI (nI o)] w (some (vI (bI (wd c o p))), w) := by
  have hc3 := hc.2.1
  have hc0 := hc.1
  obtain ⟨_, q1, _, _⟩ := hc.2.2.2.2 p hp
  have key : ∀ n g (b : Bool) x5, g + n = c 3 → Rn none 2 jM_isWalledIn (5, [some (vR (sg 13)), some (vI (nI p)), some (vI (nI o)), some (vI (bI b)), some (vI (nI g)), x5], [], w) (some (vI (bI (b && wdN c o p n g))), w) := by
    intro n
    induction n with
    | zero =>
      intro g b x5 hg
      obtain rfl : g = c 3 := by omega
      refine Rn.cv 60 rfl rfl rfl rfl rfl (m_G h) (by decide) ?_
      refine Rn.if2t 60 rfl rfl (nI_le (Nat.le_refl _) (by omega)) ?_
      unfold wdN
      rw [Bool.and_true]
      exact Rn.zr 60 rfl rfl rfl (by cases b <;> decide) rfl
    | succ n ih =>
      intro g b x5 hg
      have hgl : g < c 3 := by omega
      obtain ⟨a1, a2⟩ := hc.2.2.2.1 g hgl
      refine Rn.cv 60 rfl rfl rfl rfl rfl (m_G h) (by decide) ?_
      refine Rn.if2f 60 rfl rfl (nI_ge hgl (by omega)) ?_
      refine Rn.cv 60 rfl rfl rfl rfl rfl (m_gA hc h hgl) (by decide) ?_
      refine Rn.cv 60 rfl rfl rfl rfl rfl (m_ho hc h hp) (by decide) ?_
      have k1 := ih (g + 1) (b && !(atH c p g && o.testBit g)) (some (vI (bI (atH c p g)))) (by omega)
      have e : (b && wdN c o p (n + 1) g) = ((b && !(atH c p g && o.testBit g)) && wdN c o p n (g + 1)) := by
        rw [wdN]
        cases atH c p g && o.testBit g <;> simp
      rw [e]
      rw [nI_succ g] at k1
      have fin : Rn none 2 jM_isWalledIn (64, [some (vR (sg 13)), some (vI (nI p)), some (vI (nI o)), some (vI (bI b)), some (vI (nI g)), some (vI (bI (atH c p g)))], [], w) (some (vI (bI ((b && !(atH c p g && o.testBit g)) && wdN c o p n (g + 1)))), w) := by
        cases b with
        | false =>
          refine Rn.if1t 60 rfl rfl (by dsimp only [tm_c2P]; decide) ?_
          rw [Bool.false_and] at k1
          exact Rn.at 4 rfl k1
        | true =>
          refine Rn.if1f 60 rfl rfl (by dsimp only [tm_c2P]; decide) ?_
          cases ha : atH c p g with
          | false =>
            rw [ha, Bool.false_and] at k1
            refine Rn.if1t 60 rfl rfl (by dsimp only [tm_c2P]; decide) ?_
            exact Rn.at 5 rfl k1
          | true =>
            rw [ha, Bool.true_and] at k1
            refine Rn.if1f 60 rfl rfl (by dsimp only [tm_c2P]; decide) ?_
            cases ho : o.testBit g with
            | true =>
              rw [ho] at k1
              refine Rn.if2t 60 rfl rfl (by dsimp only [tm_c2P]; rw [nJ_bit (by omega) (by omega), bI_eq1, ho]) ?_
              exact Rn.at 4 rfl k1
            | false =>
              rw [ho] at k1
              refine Rn.if2f 60 rfl rfl (by dsimp only [tm_c2P]; rw [nJ_bit (by omega) (by omega), bI_eq1, ho]; exact fun z => by cases z) ?_
              exact Rn.at 5 rfl k1
      by_cases e1 : c (8 + 2 * g) = ho c p
      · refine Rn.if2t 60 rfl rfl (by dsimp only [tm_c2P]; rw [e1]) ?_
        have ea : atH c p g = true := by unfold atH; rw [decide_eq_true e1, Bool.true_or]
        rw [ea] at fin ⊢
        exact Rn.at 3 rfl fin
      · refine Rn.if2f 60 rfl rfl (by dsimp only [tm_c2P]; rw [nI_eq (by omega) (by omega)]; exact e1) ?_
        refine Rn.cv 60 rfl rfl rfl rfl rfl (m_gB hc h hgl) (by decide) ?_
        refine Rn.cv 60 rfl rfl rfl rfl rfl (m_ho hc h hp) (by decide) ?_
        by_cases e2 : c (9 + 2 * g) = ho c p
        · refine Rn.if2f 60 rfl rfl (by dsimp only [tm_c2P]; rw [e2]; exact fun z => z rfl) ?_
          have ea : atH c p g = true := by unfold atH; rw [decide_eq_true e2, Bool.or_true]
          rw [ea] at fin ⊢
          exact Rn.at 3 rfl fin
        · refine Rn.if2t 60 rfl rfl (by dsimp only [tm_c2P]; rw [nI_eq (by omega) (by omega)]; exact e2) ?_
          have ea : atH c p g = false := by unfold atH; rw [decide_eq_false e1, decide_eq_false e2, Bool.or_false]
          rw [ea] at fin ⊢
          exact Rn.at 2 rfl fin
  refine Cl.of rfl rfl rfl (lc := [some (vR (sg 13)), some (vI (nI p)), some (vI (nI o)), none, none, none]) rfl ?_
  have k := key (c 3) 0 true none (by omega)
  rw [Bool.true_and] at k
  exact Rn.at 4 rfl k
theorem m_walledBy {w : Wd} {c : Nat → Nat} {o : Nat} (hc : PlOk c) (h : MPl w c) (h8 : o < 256) : Cl 4 jM_walledBy [vR (sg 13), vI (nI o)] w (some (vI (nI (bs (wd c o) (c 4)))), w) := by
  have hc4 := hc.2.2.1
  have key : ∀ n p s, p + n = c 4 → Rn none 3 jM_walledBy (4, [some (vR (sg 13)), some (vI (nI o)), some (vI (nI s)), some (vI (nI p))], [], w) (some (vI (nI (bsN (wd c o) n p s))), w) := by
    intro n
    induction n with
    | zero =>
      intro p s hp
      obtain rfl : p = c 4 := by omega
      refine Rn.cv 60 rfl rfl rfl rfl rfl (m_P h) (by decide) ?_
      refine Rn.if2t 60 rfl rfl (nI_le (Nat.le_refl _) (by omega)) ?_
      exact Rn.ir 60 rfl rfl rfl rfl
    | succ n ih =>
      intro p s hp
      have k := ih (p + 1) (s ||| bif wd c o p then 2 ^ p else 0) (by omega)
      refine Rn.cv 60 rfl rfl rfl rfl rfl (m_P h) (by decide) ?_
      refine Rn.if2f 60 rfl rfl (nI_ge (by omega) (by omega)) ?_
      refine Rn.cv 60 rfl rfl rfl rfl rfl (m_isWalledIn hc h h8 (by omega)) (by decide) ?_
      unfold bsN
      rw [nI_succ p, ← nJ_or] at k
      cases hw : wd c o p with
      | true =>
        rw [hw, cond_true, ← nJ_1shl (by omega)] at k
        refine Rn.if1f 60 rfl rfl (by dsimp only [tm_c2P]; decide) ?_
        exact Rn.at 8 rfl k
      | false =>
        rw [hw, cond_false] at k
        refine Rn.if1t 60 rfl rfl (by dsimp only [tm_c2P]; decide) ?_
        exact Rn.at 5 rfl k
  refine Cl.of rfl rfl rfl (lc := [some (vR (sg 13)), some (vI (nI o)), none, none]) rfl ?_
  exact Rn.at 4 rfl (key (c 4) 0 0 (by omega))
theorem bI_shl {b : Bool} {p : Nat} (hp : p < 31) : bI b <<< (nI p &&& 31) = nI (bif b then 2 ^ p else 0) := by
  cases b
  · rw [bI_f, nJ_shl (by omega) (by rw [Nat.zero_mul]; decide), Nat.zero_mul]
    rfl
  · rw [bI_t, nJ_1shl (by omega)]
    rfl
theorem m_gladBy {w : Wd} {c : Nat → Nat} {o : Nat} (hc : PlOk c) (h : MPl w c) (h8 : o < 256) : Cl 3 jM_gladBy [vR (sg 13), vI (nI o)] w (some (vI (nI (bs (gl c o) (c 4)))), w) := by
  have hc4 := hc.2.2.1
  have hc0 := hc.1
  have key : ∀ n p s, p + n = c 4 → Rn none 2 jM_gladBy (4, [some (vR (sg 13)), some (vI (nI o)), some (vI (nI s)), some (vI (nI p))], [], w) (some (vI (nI (bsN (gl c o) n p s))), w) := by
    intro n
    induction n with
    | zero =>
      intro p s hp
      obtain rfl : p = c 4 := by omega
      refine Rn.cv 60 rfl rfl rfl rfl rfl (m_P h) (by decide) ?_
      refine Rn.if2t 60 rfl rfl (nI_le (Nat.le_refl _) (by omega)) ?_
      exact Rn.ir 60 rfl rfl rfl rfl
    | succ n ih =>
      intro p s hp
      have hpl : p < c 4 := by omega
      obtain ⟨_, q1, q2, _⟩ := hc.2.2.2.2 p hpl
      have k := ih (p + 1) (s ||| bif gl c o p then 2 ^ p else 0) (by omega)
      refine Rn.cv 60 rfl rfl rfl rfl rfl (m_P h) (by decide) ?_
      refine Rn.if2f 60 rfl rfl (nI_ge (by omega) (by omega)) ?_
      refine Rn.cv 60 rfl rfl rfl rfl rfl (m_ho hc h hpl) (by decide) ?_
      refine Rn.cv 60 rfl rfl rfl rfl rfl (m_reachBy hc h h8 q1) (by decide) ?_
      refine Rn.cv 60 rfl rfl rfl rfl rfl (m_er hc h hpl) (by decide) ?_
      unfold bsN
      rw [nI_succ p, ← nJ_or, ← bI_shl (by omega)] at k
      have er := rc_lt hc o q1
      unfold gl at k ⊢
      rw [← nJ_bit (by omega) (by omega)] at k
      exact Rn.at 9 rfl k
  refine Cl.of rfl rfl rfl (lc := [some (vR (sg 13)), some (vI (nI o)), none, none]) rfl ?_
  exact Rn.at 4 rfl (key (c 4) 0 0 (by omega))
/-- what the reference foretells on: gates, vetoes, near, tie, wishes -/
def MWk (w : Wd) (c : Nat → Nat) (nr ti o sp : Nat) (wf : Nat → Nat) : Prop := w (sg 13) 18 = nI o ∧ w (sg 13) 19 = nI sp ∧ w (sg 13) 21 = nI nr ∧ w (sg 13) 22 = nI ti ∧ ∀ p, p < c 4 → w (sg 21) p = nI (wf p)
theorem sI_near {s nr : Nat} (hs : s ≤ 100) (hn : nr ≤ 3) : (decide (nI 0 ≤ sI s) && decide (sI s ≤ nI nr)) = decide (s ≤ nr) := by
  unfold sI
  by_cases e : s = 100
  · subst e
    rw [if_pos rfl, decide_eq_false (show ¬ (100 ≤ nr) by omega), decide_eq_false (show ¬ nI 0 ≤ -(nI 1000000) by decide), Bool.false_and]
  · rw [if_neg e, decide_eq_true (show nI 0 ≤ nI s from nI_pos' (by omega)), Bool.true_and]
    exact decide_eq_decide.mpr (nJ_le (by omega) (by omega))
theorem m_isNear {w : Wd} {c : Nat → Nat} {nr ti o sp p g : Nat} {wf : Nat → Nat} (hc : PlOk c) (h : MPl w c) (hk : MWk w c nr ti o sp wf) (hd : DyOk c nr ti o sp wf) (hp : p < c 4) (hg : g < c 3) : Cl 3 jM_isNear [vR (sg 13), vI (nI p), vI (nI g)] w (some (vI (bI (decide (st c o p g ≤ nr)))), w) := by
  obtain ⟨_, q1, _, _⟩ := hc.2.2.2.2 p hp
  refine Cl.of rfl rfl rfl (lc := [some (vR (sg 13)), some (vI (nI p)), some (vI (nI g))]) rfl ?_
  refine Rn.cv 60 rfl rfl rfl rfl rfl (m_ho hc h hp) (by decide) ?_
  have h1 := m_stepsBy (o := o) hc h hd.2.2.1 q1 hg
  rw [← hk.1] at h1
  refine Rn.cv 60 rfl rfl rfl rfl rfl h1 (by decide) ?_
  have h2 := m_in (w := w) (x := sI (stT c o (2 ^ ho c p) g 6)) (y := nI 0) (z := nI nr)
  rw [sI_near (stT_100 6) hd.1, ← hk.2.2.1] at h2
  refine Rn.cs 60 rfl rfl rfl rfl h2 (by decide) ?_
  exact Rn.zr 60 rfl rfl rfl (bI01 _) rfl
theorem m_weightOf {w : Wd} {c : Nat → Nat} {nr ti o sp p g : Nat} {wf : Nat → Nat} (hc : PlOk c) (h : MPl w c) (hk : MWk w c nr ti o sp wf) (hd : DyOk c nr ti o sp wf) (hp : p < c 4) (hg : g < c 3) : Cl 4 jM_weightOf [vR (sg 13), vI (nI p), vI (nI g)] w (some (vI (nI (vc c nr o p g))), w) := by
  obtain ⟨q0, q1, _, q3⟩ := hc.2.2.2.2 p hp
  refine Cl.of rfl rfl rfl (lc := [some (vR (sg 13)), some (vI (nI p)), some (vI (nI g)), none, none]) rfl ?_
  refine Rn.cv 60 rfl rfl rfl rfl rfl (m_so hc h hp) (by decide) ?_
  unfold vc
  by_cases e5 : so c p = 5
  · rw [if_pos e5]
    refine Rn.if2f 60 rfl rfl (by dsimp only [tm_c2P]; rw [e5]; exact fun z => z rfl) ?_
    exact Rn.ir 60 rfl rfl rfl rfl
  rw [if_neg e5]
  refine Rn.if2t 60 rfl rfl (by dsimp only [tm_c2P]; rw [nI_eq (by omega) (by omega)]; exact e5) ?_
  refine Rn.cv 60 rfl rfl rfl rfl rfl (m_isNear hc h hk hd hp hg) (by decide) ?_
  by_cases en : st c o p g ≤ nr
  · rw [if_pos en, decide_eq_true en]
    refine Rn.if1f 60 rfl rfl (by dsimp only [tm_c2P]; decide) ?_
    refine Rn.cv 60 rfl rfl rfl rfl rfl (m_we hc h hp) (by decide) ?_
    refine Rn.cv 60 rfl rfl rfl rfl rfl (m_ho hc h hp) (by decide) ?_
    have h1 := m_stepsBy (o := o) hc h hd.2.2.1 q1 hg
    have hs : sI (stT c o (2 ^ ho c p) g 6) = nI (st c o p g) := by
      have := hd.1
      unfold sI
      rw [if_neg (by unfold st at en; omega)]
      rfl
    rw [hs, ← hk.1] at h1
    refine Rn.cv 60 rfl rfl rfl rfl rfl h1 (by decide) ?_
    have n3 := hd.1
    rcases Nat.lt_or_ge (we c p) (st c o p g) with hl | hl
    · refine Rn.if1f 60 rfl rfl (by dsimp only [tm_c2P]; rw [Int32.not_le]; exact pk_sneg (by omega) hl) ?_
      rw [show we c p - st c o p g = 0 by omega]
      exact Rn.ir 60 rfl rfl rfl rfl
    · refine Rn.if1t 60 rfl rfl (by dsimp only [tm_c2P]; rw [pk_sub hl]; exact nI_pos' (by omega)) ?_
      rw [← pk_sub hl]
      exact Rn.ir 60 rfl rfl rfl rfl
  · rw [if_neg en, decide_eq_false en]
    refine Rn.if1t 60 rfl rfl (by dsimp only [tm_c2P]; decide) ?_
    by_cases e2 : so c p = 2
    · rw [decide_eq_true e2, Bool.true_and]
      refine Rn.if2f 60 rfl rfl (by dsimp only [tm_c2P]; rw [e2]; exact fun z => z rfl) ?_
      have h1 := m_isWalledIn (o := o) hc h hd.2.2.1 hp
      rw [← hk.1] at h1
      refine Rn.cv 60 rfl rfl rfl rfl rfl h1 (by decide) ?_
      cases hw : wd c o p with
      | true =>
        refine Rn.if1f 60 rfl rfl (by dsimp only [tm_c2P]; decide) ?_
        exact Rn.ir 60 rfl rfl rfl rfl
      | false =>
        refine Rn.if1t 60 rfl rfl (by dsimp only [tm_c2P]; decide) ?_
        exact Rn.ir 60 rfl rfl rfl rfl
    · rw [decide_eq_false e2, Bool.false_and]
      refine Rn.if2t 60 rfl rfl (by dsimp only [tm_c2P]; rw [nI_eq (by omega) (by omega)]; exact e2) ?_
      exact Rn.ir 60 rfl rfl rfl rfl
theorem m_votesOpen {w : Wd} {c : Nat → Nat} {nr ti o sp p g : Nat} {wf : Nat → Nat} (hc : PlOk c) (h : MPl w c) (hk : MWk w c nr ti o sp wf) (hd : DyOk c nr ti o sp wf) (hp : p < c 4) (hg : g < c 3) : Cl 3 jM_votesOpen [vR (sg 13), vI (nI p), vI (nI g)] w (some (vI (bI (fo c o wf p g))), w) := by
  have hc3 := hc.2.1
  have hc4 := hc.2.2.1
  obtain ⟨q0, q1, _, q3⟩ := hc.2.2.2.2 p hp
  have w8 := hd.2.2.2.2 p hp
  have o8 := hd.2.2.1
  refine Cl.of rfl rfl rfl (lc := [some (vR (sg 13)), some (vI (nI p)), some (vI (nI g))]) rfl ?_
  refine Rn.cv 60 rfl rfl rfl rfl rfl (m_so hc h hp) (by decide) ?_
  unfold fo
  by_cases e : so c p = 3
  · rw [if_pos e]
    refine Rn.if2f 60 rfl rfl (by dsimp only [tm_c2P]; rw [e]; exact fun z => z rfl) ?_
    cases hb : o.testBit g with
    | true =>
      refine Rn.if2f 60 rfl rfl (by dsimp only [tm_c2P]; rw [hk.1, nJ_bit (by omega) (by omega), bI_eq1, hb]; exact fun z => z rfl) ?_
      exact Rn.zr 60 rfl rfl rfl (by decide) rfl
    | false =>
      refine Rn.if2t 60 rfl rfl (by dsimp only [tm_c2P]; rw [hk.1, nJ_bit (by omega) (by omega), bI_eq1, hb]; exact fun z => by cases z) ?_
      exact Rn.zr 60 rfl rfl rfl (by decide) rfl
  · rw [if_neg e]
    refine Rn.if2t 60 rfl rfl (by dsimp only [tm_c2P]; rw [nI_eq (by omega) (by omega)]; exact e) ?_
    refine Rn.al 60 rfl rfl rfl rfl (by omega) ?_
    rw [hk.2.2.2.2 p hp]
    cases hb : (wf p).testBit g with
    | true =>
      refine Rn.if2f 60 rfl rfl (by dsimp only [tm_c2P]; rw [nJ_bit (by omega) (by omega), bI_eq1, hb]; exact fun z => z rfl) ?_
      exact Rn.zr 60 rfl rfl rfl (by decide) rfl
    | false =>
      refine Rn.if2t 60 rfl rfl (by dsimp only [tm_c2P]; rw [nJ_bit (by omega) (by omega), bI_eq1, hb]; exact fun z => by cases z) ?_
      exact Rn.zr 60 rfl rfl rfl (by decide) rfl
theorem m_sumOf {w : Wd} {c : Nat → Nat} {nr ti o sp g : Nat} {wf : Nat → Nat} (b : Bool) (hc : PlOk c) (h : MPl w c) (hk : MWk w c nr ti o sp wf) (hd : DyOk c nr ti o sp wf) (hg : g < c 3) : Cl 5 jM_sumOf [vR (sg 13), vI (nI g), vI (bI b)] w (some (vI (nI (su c nr o wf g b))), w) := by
  have hc4 := hc.2.2.1
  have key : ∀ n p a, p + n = c 4 → Rn none 4 jM_sumOf (5, [some (vR (sg 13)), some (vI (nI g)), some (vI (bI b)), some (vI (nI a)), some (vI (nI p))], [], w) (some (vI (nI (suN c nr o wf g b n p a))), w) := by
    intro n
    induction n with
    | zero =>
      intro p a hp
      obtain rfl : p = c 4 := by omega
      refine Rn.cv 60 rfl rfl rfl rfl rfl (m_P h) (by decide) ?_
      refine Rn.if2t 60 rfl rfl (nI_le (Nat.le_refl _) (by omega)) ?_
      exact Rn.ir 60 rfl rfl rfl rfl
    | succ n ih =>
      intro p a hp
      have hpl : p < c 4 := by omega
      refine Rn.cv 60 rfl rfl rfl rfl rfl (m_P h) (by decide) ?_
      refine Rn.if2f 60 rfl rfl (nI_ge hpl (by omega)) ?_
      refine Rn.cv 60 rfl rfl rfl rfl rfl (m_votesOpen hc h hk hd hpl hg) (by decide) ?_
      unfold suN
      by_cases e : fo c o wf p g = b
      · rw [if_pos e]
        refine Rn.if2f 60 rfl rfl (by dsimp only [tm_c2P]; rw [bI_inj]; exact fun z => z e) ?_
        refine Rn.cv 60 rfl rfl rfl rfl rfl (m_weightOf hc h hk hd hpl hg) (by decide) ?_
        have k := ih (p + 1) (a + vc c nr o p g) (by omega)
        rw [nI_succ p, ← nI_add] at k
        exact Rn.at 5 rfl k
      · rw [if_neg e]
        refine Rn.if2t 60 rfl rfl (by dsimp only [tm_c2P]; rw [bI_inj]; exact e) ?_
        have k := ih (p + 1) (a + 0) (by omega)
        rw [nI_succ p, ← nI_add] at k
        exact Rn.at 5 rfl k
  refine Cl.of rfl rfl rfl (lc := [some (vR (sg 13)), some (vI (nI g)), some (vI (bI b)), none, none]) rfl ?_
  exact Rn.at 4 rfl (key (c 4) 0 0 (by omega))
