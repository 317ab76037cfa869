/-! swap, best, laws, sold -/
theorem bsN_bit {f : Nat → Bool} : ∀ n p s i, (bsN f n p s).testBit i = (s.testBit i || (decide (p ≤ i) && decide (i < p + n) && f i))
  | 0, p, s, i => by
    unfold bsN
    by_cases h1 : p ≤ i
    · rw [decide_eq_false (show ¬ i < p + 0 by omega)]
      simp
    · rw [decide_eq_false h1]
      simp
  | n + 1, p, s, i => by
    unfold bsN
    rw [bsN_bit n (p + 1), Nat.testBit_or]
    by_cases e : i = p
    · subst e
      rw [decide_eq_false (show ¬ i + 1 ≤ i by omega), decide_eq_true (Nat.le_refl i), decide_eq_true (show i < i + (n + 1) by omega)]
      cases f i
      · simp
      · simp [Nat.testBit_two_pow_self]
    · have h2 : (bif f p then 2 ^ p else 0 : Nat).testBit i = false := by
        cases f p
        · exact Nat.zero_testBit i
        · exact Nat.testBit_two_pow_of_ne (fun z => e z.symm)
      rw [h2, Bool.or_false, show decide (p + 1 ≤ i) = decide (p ≤ i) from decide_eq_decide.mpr (by omega), show decide (i < p + 1 + n) = decide (i < p + (n + 1)) from decide_eq_decide.mpr (by omega)]
theorem bs_bit {f : Nat → Bool} {n i : Nat} (h : i < n) : (bs f n).testBit i = f i := by
  unfold bs
  rw [bsN_bit, Nat.zero_testBit, decide_eq_true (Nat.zero_le i), decide_eq_true (show i < 0 + n by omega)]
  simp
theorem m_areGlad {w : Wd} {c : Nat → Nat} {nr ti o sp a b : Nat} {wf : Nat → Nat} (hc : PlOk c) (h : MPl w c) (hk : MWk w c nr ti o sp wf) (hd : DyOk c nr ti o sp wf) (ha : a < c 4) (hb : b < c 4) : ∃ w', Cl 7 jM_areGlad [vR (sg 13), vI (nI a), vI (nI b)] w (some (vI (bI (agl c (da c nr ti wf (o, sp)).1 a b))), w') ∧ MFr w w' := by
  have hc4 := hc.2.2.1
  obtain ⟨w1, b1, b2, b3⟩ := m_dawns hc h hk hd
  have hd1 := hd.da hc
  have o8 := hd1.2.2.1
  refine ⟨w1, ?_, b2⟩
  have hg := m_gladBy hc (h.mfr b2) o8
  rw [← b3.1] at hg
  have hl : bs (gl c (da c nr ti wf (o, sp)).1) (c 4) < 256 := by
    have := bs_lt (f := gl c (da c nr ti wf (o, sp)).1) hc4
    omega
  refine Cl.of rfl rfl rfl (lc := [some (vR (sg 13)), some (vI (nI a)), some (vI (nI b)), none]) rfl ?_
  refine Rn.cv 60 rfl rfl rfl rfl rfl b1 (by decide) ?_
  refine Rn.cv 60 rfl rfl rfl rfl rfl hg (by decide) ?_
  unfold agl
  cases ea : gl c (da c nr ti wf (o, sp)).1 a with
  | false =>
    refine Rn.if2t 60 rfl rfl (by dsimp only [tm_c2P]; rw [nJ_bit (by omega) (by omega), bI_eq1, bs_bit ha, ea]; exact fun z => by cases z) ?_
    exact Rn.zr 60 rfl rfl rfl (by decide) rfl
  | true =>
    refine Rn.if2f 60 rfl rfl (by dsimp only [tm_c2P]; rw [nJ_bit (by omega) (by omega), bI_eq1, bs_bit ha, ea]; exact fun z => z rfl) ?_
    cases eb : gl c (da c nr ti wf (o, sp)).1 b with
    | false =>
      refine Rn.if2t 60 rfl rfl (by dsimp only [tm_c2P]; rw [nJ_bit (by omega) (by omega), bI_eq1, bs_bit hb, eb]; exact fun z => by cases z) ?_
      exact Rn.zr 60 rfl rfl rfl (by decide) rfl
    | true =>
      refine Rn.if2f 60 rfl rfl (by dsimp only [tm_c2P]; rw [nJ_bit (by omega) (by omega), bI_eq1, bs_bit hb, eb]; exact fun z => z rfl) ?_
      exact Rn.zr 60 rfl rfl rfl (by decide) rfl
theorem nJ_pick : ∀ g, g < 8 → ∀ f, f < 256 → nI f &&& nI (2 ^ g) = nI (bif f.testBit g then 2 ^ g else 0) := by decide +kernel
theorem nJ_flip : ∀ g, g < 8 → ∀ f, f < 256 → nI f ^^^ nI (2 ^ g) = nI (sbN f g (!f.testBit g)) := by decide +kernel
theorem nJ_swap {f h g : Nat} (hf : f < 256) (hh : h < 256) (hg : g < 8) : nI f &&& (nI 1 <<< (nI g &&& 31) ^^^ -(nI 1)) ||| nI h &&& (nI 1 <<< (nI g &&& 31)) = nI (sbN f g (h.testBit g)) := by
  rw [nJ_1shl (by omega), nJ_clr g hg _ hf, nJ_pick g hg _ hh, nJ_or]
  rfl
theorem MWk.up {w : Wd} {c : Nat → Nat} {nr ti o sp p v : Nat} {wf : Nat → Nat} (h : MWk w c nr ti o sp wf) : MWk (wset w (sg 21) p (nI v)) c nr ti o sp (upW wf p v) := by
  refine ⟨by rw [wset_ne (by decide)]; exact h.1, by rw [wset_ne (by decide)]; exact h.2.1, by rw [wset_ne (by decide)]; exact h.2.2.1, by rw [wset_ne (by decide)]; exact h.2.2.2.1, fun q hq => ?_⟩
  unfold upW
  by_cases e : q = p
  · subst e
    rw [wset_s, if_pos rfl]
  · rw [wset_k e, if_neg e]
    exact h.2.2.2.2 q hq
theorem DyOk.up {c : Nat → Nat} {nr ti o sp p v : Nat} {wf : Nat → Nat} (h : DyOk c nr ti o sp wf) (hv : v < 256) : DyOk c nr ti o sp (upW wf p v) := ⟨h.1, h.2.1, h.2.2.1, h.2.2.2.1, fun q hq => by
  unfold upW
  split
  · exact hv
  · exact h.2.2.2.2 q hq⟩
theorem op_swap {x y : Int32} : Op jX_swap jM_swap [vI x, vI y] := by
  intro w hi
  obtain ⟨hb, c, nr, ti, o, sp, dy, wf, hok, hci, hma, hact⟩ := id hi.2.2.2.2.2
  have hM : Mt w c nr ti o sp dy wf := ⟨hb, hma⟩
  have hc := hok.1
  have hd := hok.2.1
  have hc3 := hc.2.1
  have hc4 := hc.2.2.1
  have x4 : w (cit 0 0) 4 = nI (c 4) := hci.1.2.2.1
  rcases pk_or (x := x) (n := c 4) (by omega) with h1 | ⟨a, ha, rfl⟩
  · refine op_same hi (v := -(nI 1000001)) ?_ ?_
    · refine Cl.of rfl rfl rfl (lc := [some (vR (sg 0)), some (vI x), some (vI y)]) rfl ?_
      refine Rn.cs 60 rfl rfl rfl rfl (by rw [x4]; exact x_no (by omega) h1) (by decide) ?_
      refine Rn.if1t 60 rfl rfl (by dsimp only [tm_c2P]; decide) ?_
      exact Rn.ir 60 rfl rfl rfl rfl
    · refine Cl.of rfl rfl rfl (lc := [some (vR (sg 13)), some (vI x), some (vI y), none, none, none, none]) rfl ?_
      refine Rn.cv 60 rfl rfl rfl rfl rfl (m_pno hc hM.pl h1) (by decide) ?_
      refine Rn.if1t 60 rfl rfl (by dsimp only [tm_c2P]; decide) ?_
      exact Rn.ir 60 rfl rfl rfl rfl
  have cx : ∀ {r0 : Rs}, Rn none 19 jX_swap (14, [some (vR (sg 0)), some (vI (nI a)), some (vI y)], [], w) r0 → Cl 20 jX_swap [vR (sg 0), vI (nI a), vI y] w r0 := by
    intro r0 k
    refine Cl.of rfl rfl rfl (lc := [some (vR (sg 0)), some (vI (nI a)), some (vI y)]) rfl ?_
    refine Rn.cs 60 rfl rfl rfl rfl (by rw [x4]; exact x_yes (by omega) ha) (by decide) ?_
    exact Rn.if1f 60 rfl rfl (by dsimp only [tm_c2P]; decide) k
  have cm : ∀ {w : Wd} {r0 : Rs}, Mt w c nr ti o sp dy wf → Rn none 19 jM_swap (8, [some (vR (sg 13)), some (vI (nI a)), some (vI y), none, none, none, none], [], w) r0 → Cl 20 jM_swap [vR (sg 13), vI (nI a), vI y] w r0 := by
    intro w r0 hM k
    refine Cl.of rfl rfl rfl (lc := [some (vR (sg 13)), some (vI (nI a)), some (vI y), none, none, none, none]) rfl ?_
    refine Rn.cv 60 rfl rfl rfl rfl rfl (m_pyes hc hM.pl ha) (by decide) ?_
    exact Rn.if1f 60 rfl rfl (by dsimp only [tm_c2P]; decide) k
  rcases pk_or (x := y) (n := c 4) (by omega) with h1 | ⟨b, hb', rfl⟩
  · refine op_same hi (v := -(nI 1000001)) (cx ?_) (cm hM ?_)
    · refine Rn.cs 60 rfl rfl rfl rfl (by rw [x4]; exact x_no (by omega) h1) (by decide) ?_
      refine Rn.if1t 60 rfl rfl (by dsimp only [tm_c2P]; decide) ?_
      exact Rn.ir 60 rfl rfl rfl rfl
    · refine Rn.cv 60 rfl rfl rfl rfl rfl (m_pno hc hM.pl h1) (by decide) ?_
      refine Rn.if1t 60 rfl rfl (by dsimp only [tm_c2P]; decide) ?_
      exact Rn.ir 60 rfl rfl rfl rfl
  have dx : ∀ {r0 : Rs}, Rn none 19 jX_swap (28, [some (vR (sg 0)), some (vI (nI a)), some (vI (nI b))], [], w) r0 → Cl 20 jX_swap [vR (sg 0), vI (nI a), vI (nI b)] w r0 := by
    intro r0 k
    refine cx ?_
    refine Rn.cs 60 rfl rfl rfl rfl (by rw [x4]; exact x_yes (by omega) hb') (by decide) ?_
    exact Rn.if1f 60 rfl rfl (by dsimp only [tm_c2P]; decide) k
  have dm : ∀ {w : Wd} {r0 : Rs}, Mt w c nr ti o sp dy wf → Rn none 19 jM_swap (16, [some (vR (sg 13)), some (vI (nI a)), some (vI (nI b)), none, none, none, none], [], w) r0 → Cl 20 jM_swap [vR (sg 13), vI (nI a), vI (nI b)] w r0 := by
    intro w r0 hM k
    refine cm hM ?_
    refine Rn.cv 60 rfl rfl rfl rfl rfl (m_pyes hc hM.pl hb') (by decide) ?_
    exact Rn.if1f 60 rfl rfl (by dsimp only [tm_c2P]; decide) k
  by_cases hab : a = b
  · refine op_same hi (v := -(nI 1000001)) (dx ?_) (dm hM ?_)
    · refine Rn.if2f 60 rfl rfl (by dsimp only [tm_c2P]; rw [hab]; exact fun z => z rfl) ?_
      exact Rn.ir 60 rfl rfl rfl rfl
    · refine Rn.if2f 60 rfl rfl (by dsimp only [tm_c2P]; rw [hab]; exact fun z => z rfl) ?_
      exact Rn.ir 60 rfl rfl rfl rfl
  obtain ⟨w1, f1, f2⟩ := sp_firstSwap hc (TwnI.now hci) hd ha hb' hab
  have hM1 := hM.seer (FrR.o4 f2)
  obtain ⟨w2, b1, b2, b3⟩ := m_begin hc hM1.1 hM1.2
  obtain ⟨w3, d1, d2⟩ := m_areGlad hc (hM1.mfr b2).pl b3 hd ha hb'
  have wa8 := hd.2.2.2.2 a ha
  have wb8 := hd.2.2.2.2 b hb'
  have inner : ∀ one, one < c 3 → ∀ m two w4 x5 x6, two + m = c 3 → MFr w1 w4 → ∃ w5, MFr w1 w5 ∧ match swJ (swh c nr ti wf (o, sp) a b) one m two with
    | some v => Rn none 19 jM_swap (54, [some (vR (sg 13)), some (vI (nI a)), some (vI (nI b)), some (vI (nI one)), some (vI (nI two)), x5, x6], [], w4) (some (vI (nI v)), w5)
    | none => ∃ x5' x6', ∀ r, Rn none 19 jM_swap (157, [some (vR (sg 13)), some (vI (nI a)), some (vI (nI b)), some (vI (nI one)), some (vI (nI (c 3))), x5', x6'], [], w5) r → Rn none 19 jM_swap (54, [some (vR (sg 13)), some (vI (nI a)), some (vI (nI b)), some (vI (nI one)), some (vI (nI two)), x5, x6], [], w4) r := by
    intro one h1 m
    induction m with
    | zero =>
      intro two w4 x5 x6 ht f
      obtain rfl : two = c 3 := by omega
      refine ⟨w4, f, ?_⟩
      unfold swJ
      refine ⟨x5, x6, fun r k => ?_⟩
      refine Rn.cv 60 rfl rfl rfl rfl rfl (m_G (hM1.mfr f).pl) (by decide) ?_
      exact Rn.if2t 60 rfl rfl (nI_le (Nat.le_refl _) (by omega)) k
    | succ m ih =>
      intro two w4 x5 x6 ht f
      have h2 : two < c 3 := by omega
      have head : ∀ r, Rn none 19 jM_swap (64, [some (vR (sg 13)), some (vI (nI a)), some (vI (nI b)), some (vI (nI one)), some (vI (nI two)), x5, x6], [], w4) r → Rn none 19 jM_swap (54, [some (vR (sg 13)), some (vI (nI a)), some (vI (nI b)), some (vI (nI one)), some (vI (nI two)), x5, x6], [], w4) r := by
        intro r k
        refine Rn.cv 60 rfl rfl rfl rfl rfl (m_G (hM1.mfr f).pl) (by decide) ?_
        exact Rn.if2f 60 rfl rfl (nI_ge h2 (by omega)) k
      by_cases e : one = two
      · obtain ⟨w5, g1, g2⟩ := ih (two + 1) w4 x5 x6 (by omega) f
        refine ⟨w5, g1, ?_⟩
        rw [show swJ (swh c nr ti wf (o, sp) a b) one (m + 1) two = swJ (swh c nr ti wf (o, sp) a b) one m (two + 1) from by rw [swJ, if_neg (fun z => z.1 e)]]
        have step : ∀ r, Rn none 19 jM_swap (54, [some (vR (sg 13)), some (vI (nI a)), some (vI (nI b)), some (vI (nI one)), some (vI (nI (two + 1))), x5, x6], [], w4) r → Rn none 19 jM_swap (54, [some (vR (sg 13)), some (vI (nI a)), some (vI (nI b)), some (vI (nI one)), some (vI (nI two)), x5, x6], [], w4) r := by
          intro r k
          refine head r ?_
          refine Rn.if2t 60 rfl rfl (by dsimp only [tm_c2P]; rw [e]) ?_
          rw [nI_succ two] at k
          exact Rn.at 2 rfl k
        cases hs : swJ (swh c nr ti wf (o, sp) a b) one m (two + 1) with
        | some v =>
          rw [hs] at g2
          exact step _ g2
        | none =>
          rw [hs] at g2
          obtain ⟨x5', x6', g3⟩ := g2
          exact ⟨x5', x6', fun r k => step r (g3 r k)⟩
      · obtain ⟨w5, i1, i2, i3⟩ := m_begin hc (hM1.mfr f).1 (hM1.mfr f).2
        have k6 := (i3.up (p := a) (v := sbN (wf a) one ((wf b).testBit one))).up (p := b) (v := sbN (wf b) two ((wf a).testBit two))
        have f6 := ((f.tr i2).tr (MFr.wis (j := a) (x := nI (sbN (wf a) one ((wf b).testBit one))))).tr (MFr.wis (j := b) (x := nI (sbN (wf b) two ((wf a).testBit two))))
        have hd6 : DyOk c nr ti o sp (wfX wf a b one two) := (hd.up (sbN_lt wa8 (by omega))).up (sbN_lt wb8 (by omega))
        obtain ⟨w7, j1, j2⟩ := m_areGlad hc (hM1.mfr f6).pl (wf := wfX wf a b one two) k6 hd6 ha hb'
        have step : ∀ r, Rn none 19 jM_swap (140, [some (vR (sg 13)), some (vI (nI a)), some (vI (nI b)), some (vI (nI one)), some (vI (nI two)), some (vI (nI (wf a))), some (vI (nI (wf b)))], [vI (bI (swh c nr ti wf (o, sp) a b one two))], w7) r → Rn none 19 jM_swap (54, [some (vR (sg 13)), some (vI (nI a)), some (vI (nI b)), some (vI (nI one)), some (vI (nI two)), x5, x6], [], w4) r := by
          intro r k
          refine head r ?_
          refine Rn.if2f 60 rfl rfl (by dsimp only [tm_c2P]; rw [nI_eq (by omega) (by omega)]; exact e) ?_
          refine Rn.cv 60 rfl rfl rfl rfl rfl i1 (by decide) ?_
          refine Rn.al 60 rfl rfl rfl rfl (by omega) ?_
          rw [i3.2.2.2.2 a ha]
          refine Rn.al 60 rfl rfl rfl rfl (by omega) ?_
          rw [i3.2.2.2.2 b hb']
          refine Rn.as 60 rfl rfl rfl rfl (by omega) ?_
          dsimp only
          rw [nJ_swap wa8 wb8 (by omega)]
          refine Rn.as 60 rfl rfl rfl rfl (by omega) ?_
          dsimp only
          rw [nJ_swap wb8 wa8 (by omega)]
          exact Rn.cv 60 rfl rfl rfl rfl rfl j1 (by decide) k
        cases hs : swh c nr ti wf (o, sp) a b one two with
        | true =>
          rw [hs] at step
          refine ⟨w7, f6.tr j2, ?_⟩
          rw [show swJ (swh c nr ti wf (o, sp) a b) one (m + 1) two = some (8 * one + two) from by rw [swJ, if_pos ⟨e, hs⟩]]
          refine step _ ?_
          refine Rn.if1f 60 rfl rfl (by dsimp only [tm_c2P]; decide) ?_
          refine Rn.ir 60 rfl rfl rfl ?_
          dsimp only
          rw [pk_mul, nI_add]
        | false =>
          rw [hs] at step
          obtain ⟨w8, g1, g2⟩ := ih (two + 1) w7 (some (vI (nI (wf a)))) (some (vI (nI (wf b)))) (by omega) (f6.tr j2)
          refine ⟨w8, g1, ?_⟩
          rw [show swJ (swh c nr ti wf (o, sp) a b) one (m + 1) two = swJ (swh c nr ti wf (o, sp) a b) one m (two + 1) from by rw [swJ, if_neg (fun z => by rw [hs] at z; cases z.2)]]
          have step2 : ∀ r, Rn none 19 jM_swap (54, [some (vR (sg 13)), some (vI (nI a)), some (vI (nI b)), some (vI (nI one)), some (vI (nI (two + 1))), some (vI (nI (wf a))), some (vI (nI (wf b)))], [], w7) r → Rn none 19 jM_swap (54, [some (vR (sg 13)), some (vI (nI a)), some (vI (nI b)), some (vI (nI one)), some (vI (nI two)), x5, x6], [], w4) r := by
            intro r k
            refine step r ?_
            refine Rn.if1t 60 rfl rfl (by dsimp only [tm_c2P]; decide) ?_
            rw [nI_succ two] at k
            exact Rn.at 2 rfl k
          cases hs2 : swJ (swh c nr ti wf (o, sp) a b) one m (two + 1) with
          | some v =>
            rw [hs2] at g2
            exact step2 _ g2
          | none =>
            rw [hs2] at g2
            obtain ⟨x5', x6', g3⟩ := g2
            exact ⟨x5', x6', fun r k => step2 r (g3 r k)⟩
  have outer : ∀ m one w4 x4 x5 x6, one + m = c 3 → MFr w1 w4 → ∃ w5, MFr w1 w5 ∧ Rn none 19 jM_swap (42, [some (vR (sg 13)), some (vI (nI a)), some (vI (nI b)), some (vI (nI one)), x4, x5, x6], [], w4) (some (vI (feI (swI (swh c nr ti wf (o, sp) a b) (c 3) m one))), w5) := by
    intro m
    induction m with
    | zero =>
      intro one w4 x4 x5 x6 ho f
      obtain rfl : one = c 3 := by omega
      refine ⟨w4, f, ?_⟩
      refine Rn.cv 60 rfl rfl rfl rfl rfl (m_G (hM1.mfr f).pl) (by decide) ?_
      refine Rn.if2t 60 rfl rfl (nI_le (Nat.le_refl _) (by omega)) ?_
      exact Rn.ir 60 rfl rfl rfl rfl
    | succ m ih =>
      intro one w4 x4 x5 x6 ho f
      obtain ⟨w5, g1, g2⟩ := inner one (by omega) (c 3) 0 w4 x5 x6 (by omega) f
      have head : ∀ r, Rn none 19 jM_swap (54, [some (vR (sg 13)), some (vI (nI a)), some (vI (nI b)), some (vI (nI one)), some (vI (nI 0)), x5, x6], [], w4) r → Rn none 19 jM_swap (42, [some (vR (sg 13)), some (vI (nI a)), some (vI (nI b)), some (vI (nI one)), x4, x5, x6], [], w4) r := by
        intro r k
        refine Rn.cv 60 rfl rfl rfl rfl rfl (m_G (hM1.mfr f).pl) (by decide) ?_
        refine Rn.if2f 60 rfl rfl (nI_ge (by omega) (by omega)) ?_
        exact Rn.at 2 rfl k
      cases hs : swJ (swh c nr ti wf (o, sp) a b) one (c 3) 0 with
      | some v =>
        rw [hs] at g2
        refine ⟨w5, g1, head _ ?_⟩
        rw [show swI (swh c nr ti wf (o, sp) a b) (c 3) (m + 1) one = some v from by rw [swI, hs]]
        exact g2
      | none =>
        rw [hs] at g2
        obtain ⟨x5', x6', g3⟩ := g2
        obtain ⟨w6, l1, l2⟩ := ih (one + 1) w5 (some (vI (nI (c 3)))) x5' x6' (by omega) g1
        refine ⟨w6, l1, head _ (g3 _ ?_)⟩
        rw [show swI (swh c nr ti wf (o, sp) a b) (c 3) (m + 1) one = swI (swh c nr ti wf (o, sp) a b) (c 3) m (one + 1) from by rw [swI, hs]]
        rw [nI_succ one] at l2
        exact Rn.at 2 rfl l2
  obtain ⟨w5, l1, l2⟩ := outer (c 3) 0 w3 none none none (by omega) (b2.tr d2)
  have em : ∀ {r0 : Rs}, Rn none 19 jM_swap (34, [some (vR (sg 13)), some (vI (nI a)), some (vI (nI b)), none, none, none, none], [vI (bI (agl c (da c nr ti wf (o, sp)).1 a b))], w3) r0 → Cl 20 jM_swap [vR (sg 13), vI (nI a), vI (nI b)] w1 r0 := by
    intro r0 k
    refine dm hM1 ?_
    refine Rn.if2t 60 rfl rfl (by dsimp only [tm_c2P]; rw [nI_eq (by omega) (by omega)]; exact hab) ?_
    refine Rn.cv 60 rfl rfl rfl rfl rfl b1 (by decide) ?_
    exact Rn.cv 60 rfl rfl rfl rfl rfl d1 (by decide) k
  cases hg : agl c (da c nr ti wf (o, sp)).1 a b with
  | true =>
    rw [hg] at em f1
    refine ⟨w1, w3, -(nI 1000000), dx ?_, em ?_, (hi.seer (FrR.o4 f2)).mfr (b2.tr d2)⟩
    · refine Rn.if2t 60 rfl rfl (by dsimp only [tm_c2P]; rw [nI_eq (by omega) (by omega)]; exact hab) ?_
      refine Rn.cv 60 rfl rfl rfl rfl rfl f1 (by decide) ?_
      exact Rn.ir 60 rfl rfl rfl rfl
    · refine Rn.if1f 60 rfl rfl (by dsimp only [tm_c2P]; decide) ?_
      exact Rn.ir 60 rfl rfl rfl rfl
  | false =>
    rw [hg] at em f1
    refine ⟨w1, w5, feI (swI (swh c nr ti wf (o, sp) a b) (c 3) (c 3) 0), dx ?_, em ?_, (hi.seer (FrR.o4 f2)).mfr l1⟩
    · refine Rn.if2t 60 rfl rfl (by dsimp only [tm_c2P]; rw [nI_eq (by omega) (by omega)]; exact hab) ?_
      refine Rn.cv 60 rfl rfl rfl rfl rfl f1 (by decide) ?_
      exact Rn.ir 60 rfl rfl rfl rfl
    · refine Rn.if1t 60 rfl rfl (by dsimp only [tm_c2P]; decide) ?_
      exact Rn.at 2 rfl l2
theorem agl_self (c : Nat → Nat) (o a : Nat) : agl c o a a = gl c o a := Bool.and_self _
theorem op_best {x : Int32} : Op jX_best jM_best [vI x] := by
  intro w hi
  obtain ⟨hb, c, nr, ti, o, sp, dy, wf, hok, hci, hma, hact⟩ := id hi.2.2.2.2.2
  have hM : Mt w c nr ti o sp dy wf := ⟨hb, hma⟩
  have hc := hok.1
  have hd := hok.2.1
  have hc3 := hc.2.1
  have hc4 := hc.2.2.1
  have hp3 : 2 ^ c 3 ≤ 256 := Nat.pow_le_pow_right (n := 2) (by decide) hc3
  have x4 : w (cit 0 0) 4 = nI (c 4) := hci.1.2.2.1
  rcases pk_or (x := x) (n := c 4) (by omega) with h1 | ⟨a, ha, rfl⟩
  · refine op_same hi (v := -(nI 1000001)) ?_ ?_
    · refine Cl.of rfl rfl rfl (lc := [some (vR (sg 0)), some (vI x)]) rfl ?_
      refine Rn.cs 60 rfl rfl rfl rfl (by rw [x4]; exact x_no (by omega) h1) (by decide) ?_
      refine Rn.if1t 60 rfl rfl (by dsimp only [tm_c2P]; decide) ?_
      exact Rn.ir 60 rfl rfl rfl rfl
    · refine Cl.of rfl rfl rfl (lc := [some (vR (sg 13)), some (vI x), none]) rfl ?_
      refine Rn.cv 60 rfl rfl rfl rfl rfl (m_pno hc hM.pl h1) (by decide) ?_
      refine Rn.if1f 60 rfl rfl (by dsimp only [tm_c2P]; decide) ?_
      exact Rn.ir 60 rfl rfl rfl rfl
  obtain ⟨w1, f1, f2⟩ := sp_leastWish hc (TwnI.now hci) hd ha
  have hM1 := hM.seer (FrR.o4 f2)
  have key : ∀ m s w4, s + m = 2 ^ c 3 → MFr w1 w4 → ∃ w5, MFr w1 w5 ∧ Rn none 19 jM_best (13, [some (vR (sg 13)), some (vI (nI a)), some (vI (nI s))], [], w4) (some (vI (feI (fiN (fun s => gl c (da c nr ti (upW wf a s) (o, sp)).1 a) m s))), w5) := by
    intro m
    induction m with
    | zero =>
      intro s w4 hs f
      obtain rfl : s = 2 ^ c 3 := by omega
      refine ⟨w4, f, ?_⟩
      refine Rn.cv 60 rfl rfl rfl rfl rfl (m_G (hM1.mfr f).pl) (by decide) ?_
      refine Rn.if2t 60 rfl rfl (by dsimp only [tm_c2P]; rw [nJ_1shl (by omega)]; exact nI_le (Nat.le_refl _) (by omega)) ?_
      exact Rn.ir 60 rfl rfl rfl rfl
    | succ m ih =>
      intro s w4 hs f
      obtain ⟨w5, i1, i2, i3⟩ := m_begin hc (hM1.mfr f).1 (hM1.mfr f).2
      have f6 := (f.tr i2).tr (MFr.wis (j := a) (x := nI s))
      obtain ⟨w7, j1, j2⟩ := m_areGlad hc (hM1.mfr f6).pl (i3.up (p := a) (v := s)) (hd.up (show s < 256 by omega)) ha ha
      rw [agl_self] at j1
      have head : ∀ r, Rn none 19 jM_best (41, [some (vR (sg 13)), some (vI (nI a)), some (vI (nI s))], [vI (bI (gl c (da c nr ti (upW wf a s) (o, sp)).1 a))], w7) r → Rn none 19 jM_best (13, [some (vR (sg 13)), some (vI (nI a)), some (vI (nI s))], [], w4) r := by
        intro r k
        refine Rn.cv 60 rfl rfl rfl rfl rfl (m_G (hM1.mfr f).pl) (by decide) ?_
        refine Rn.if2f 60 rfl rfl (by dsimp only [tm_c2P]; rw [nJ_1shl (by omega)]; exact nI_ge (by omega) (by omega)) ?_
        refine Rn.cv 60 rfl rfl rfl rfl rfl i1 (by decide) ?_
        refine Rn.as 60 rfl rfl rfl rfl (by omega) ?_
        exact Rn.cv 60 rfl rfl rfl rfl rfl j1 (by decide) k
      unfold fiN
      cases hg : gl c (da c nr ti (upW wf a s) (o, sp)).1 a with
      | true =>
        rw [hg] at head
        refine ⟨w7, f6.tr j2, head _ ?_⟩
        rw [if_pos rfl]
        refine Rn.if1f 60 rfl rfl (by dsimp only [tm_c2P]; decide) ?_
        exact Rn.ir 60 rfl rfl rfl rfl
      | false =>
        rw [hg] at head
        obtain ⟨w8, l1, l2⟩ := ih (s + 1) w7 (by omega) (f6.tr j2)
        refine ⟨w8, l1, head _ ?_⟩
        rw [if_neg (by decide)]
        refine Rn.if1t 60 rfl rfl (by dsimp only [tm_c2P]; decide) ?_
        rw [nI_succ s] at l2
        exact Rn.at 2 rfl l2
  obtain ⟨w5, l1, l2⟩ := key (2 ^ c 3) 0 w1 (by omega) MFr.rf
  refine ⟨w1, w5, feI (fiN (fun s => gl c (da c nr ti (upW wf a s) (o, sp)).1 a) (2 ^ c 3) 0), ?_, ?_, (hi.seer (FrR.o4 f2)).mfr l1⟩
  · refine Cl.of rfl rfl rfl (lc := [some (vR (sg 0)), some (vI (nI a))]) rfl ?_
    refine Rn.cs 60 rfl rfl rfl rfl (by rw [x4]; exact x_yes (by omega) ha) (by decide) ?_
    refine Rn.if1f 60 rfl rfl (by dsimp only [tm_c2P]; decide) ?_
    refine Rn.cv 60 rfl rfl rfl rfl rfl f1 (by decide) ?_
    exact Rn.ir 60 rfl rfl rfl rfl
  · refine Cl.of rfl rfl rfl (lc := [some (vR (sg 13)), some (vI (nI a)), none]) rfl ?_
    refine Rn.cv 60 rfl rfl rfl rfl rfl (m_pyes hc hM1.pl ha) (by decide) ?_
    refine Rn.if1t 60 rfl rfl (by dsimp only [tm_c2P]; decide) ?_
    exact Rn.at 2 rfl l2
