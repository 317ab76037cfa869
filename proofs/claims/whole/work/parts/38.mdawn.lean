/-! the reference's dawn -/
def MFr (w w' : Wd) : Prop := (∀ t, t ≠ sg 13 → t ≠ sg 21 → w' t = w t) ∧ ∀ j, j ≠ 18 → j ≠ 19 → j ≠ 21 → j ≠ 22 → w' (sg 13) j = w (sg 13) j
theorem MFr.rf {w : Wd} : MFr w w := ⟨fun _ _ _ => rfl, fun _ _ _ _ _ => rfl⟩
theorem MFr.tr {w w1 w2 : Wd} (h1 : MFr w w1) (h2 : MFr w1 w2) : MFr w w2 := ⟨fun t a b => (h2.1 t a b).trans (h1.1 t a b), fun j a b d e => (h2.2 j a b d e).trans (h1.2 j a b d e)⟩
theorem MFr.set {w : Wd} {j : Nat} {x : Int32} (h : j = 18 ∨ j = 19 ∨ j = 21 ∨ j = 22) : MFr w (wset w (sg 13) j x) := ⟨fun t a _ => wset_ne a, fun i a b d e => wset_k (by omega)⟩
theorem MFr.wis {w : Wd} {j : Nat} {x : Int32} : MFr w (wset w (sg 21) j x) := ⟨fun t _ b => wset_ne b, fun i a b d e => by rw [wset_ne (by decide)]⟩
theorem MFr.same {w w' : Wd} (h : MFr w w') {n : Nat} (hn : n ≠ 9) : Same n w w' := fun t j e => by
  by_cases h1 : t = sg 13
  · subst h1
    refine h.2 j (fun z => ?_) (fun z => ?_) (fun z => ?_) (fun z => ?_)
    all_goals
      subst z
      exact hn e.symm
  · by_cases h2 : t = sg 21
    · subst h2
      exact absurd e.symm hn
    · rw [h.1 t h1 h2]
theorem MPl.mfr {w w' : Wd} {c : Nat → Nat} (h : MPl w c) (f : MFr w w') : MPl w' c := h.fr (f.2 5 (by decide) (by decide) (by decide) (by decide)) (f.1 _ (by decide) (by decide))
theorem MaIs.mfr {w w' : Wd} {b : Nat} {c : Nat → Nat} {nr ti o sp dy : Nat} {wf : Nat → Nat} (h : MaIs w b c nr ti o sp dy wf) (f : MFr w w') : MaIs w' b c nr ti o sp dy wf := by
  unfold MaIs
  rw [f.1 _ (by decide) (by decide)]
  exact h
theorem MaIs.pl {w : Wd} {c : Nat → Nat} {nr ti o sp dy : Nat} {wf : Nat → Nat} (h : MaIs w 0 c nr ti o sp dy wf) (hb : w (sg 13) 5 = nI 0) : MPl w c := by
  obtain ⟨h1, h2, h3, h4, h5, h6, h7, h8, h9, h10⟩ := h
  simp only [Nat.zero_add] at h4 h5 h9 h10
  exact ⟨hb, h1, h4, h5, h9, fun p hp => ⟨(h10 p hp).1, (h10 p hp).2.1, (h10 p hp).2.2.1, (h10 p hp).2.2.2.2⟩⟩
theorem m_begin {w : Wd} {c : Nat → Nat} {nr ti o sp dy : Nat} {wf : Nat → Nat} (hc : PlOk c) (hb : w (sg 13) 5 = nI 0) (h : MaIs w 0 c nr ti o sp dy wf) : ∃ w', Cl 3 jM_begin [vR (sg 13)] w (none, w') ∧ MFr w w' ∧ MWk w' c nr ti o sp wf := by
  have hc4 := hc.2.2.1
  have h0 := h
  obtain ⟨h1, h2, h3, h4, h5, h6, h7, h8, h9, h10⟩ := h
  simp only [Nat.zero_add] at h2 h3 h7 h8 h10
  have e : ∀ {w' : Wd}, MFr w w' → w' (sg 17) = w (sg 17) ∧ w' (sg 13) 5 = nI 0 := fun f => ⟨f.1 _ (by decide) (by decide), (f.2 5 (by decide) (by decide) (by decide) (by decide)).trans hb⟩
  have key : ∀ n p w', p + n = c 4 → MFr w w' → w' (sg 13) 18 = nI o → w' (sg 13) 19 = nI sp → w' (sg 13) 21 = nI nr → w' (sg 13) 22 = nI ti → (∀ q, q < p → w' (sg 21) q = nI (wf q)) → ∃ w2, Rn none 2 jM_begin (40, [some (vR (sg 13)), some (vI (nI p))], [], w') (none, w2) ∧ MFr w w2 ∧ MWk w2 c nr ti o sp wf := by
    intro n
    induction n with
    | zero =>
      intro p w' hp f a1 a2 a3 a4 a5
      obtain rfl : p = c 4 := by omega
      refine ⟨w', ?_, f, a1, a2, a3, a4, a5⟩
      refine Rn.cv 60 rfl rfl rfl rfl rfl (m_P ((h0.mfr f).pl (e f).2)) (by decide) ?_
      refine Rn.if2t 60 rfl rfl (nI_le (Nat.le_refl _) (by omega)) ?_
      exact Rn.vr 60 rfl rfl rfl rfl
    | succ n ih =>
      intro p w' hp f a1 a2 a3 a4 a5
      obtain ⟨w2, b1, b2⟩ := ih (p + 1) (wset w' (sg 21) p (nI (wf p))) (by omega) (f.tr MFr.wis) (by rw [wset_ne (by decide)]; exact a1) (by rw [wset_ne (by decide)]; exact a2) (by rw [wset_ne (by decide)]; exact a3) (by rw [wset_ne (by decide)]; exact a4) (fun q hq => by
        by_cases eq : q = p
        · subst eq
          exact wset_s
        · rw [wset_k eq]
          exact a5 q (by omega))
      refine ⟨w2, ?_, b2⟩
      refine Rn.cv 60 rfl rfl rfl rfl rfl (m_P ((h0.mfr f).pl (e f).2)) (by decide) ?_
      refine Rn.if2f 60 rfl rfl (nI_ge (by omega) (by omega)) ?_
      refine Rn.cv 60 rfl rfl rfl rfl rfl (m_pers (p := p) (k := 3) (v := nI (wf p)) (e f).2 (by omega) (by rw [(e f).1, show 24 + 5 * p + 3 = 27 + 5 * p by omega]; exact (h10 p (by omega)).2.2.2.1)) (by decide) ?_
      refine Rn.as 60 rfl rfl rfl rfl (by omega) ?_
      rw [nI_succ p] at b1
      exact Rn.at 2 rfl b1
  have f1 : MFr w (wset w (sg 13) 18 (nI o)) := MFr.set (by decide)
  have f2 := f1.tr (MFr.set (j := 19) (x := nI sp) (by decide))
  have f3 := f2.tr (MFr.set (j := 21) (x := nI nr) (by decide))
  have f4 := f3.tr (MFr.set (j := 22) (x := nI ti) (by decide))
  obtain ⟨w2, b1, b2⟩ := key (c 4) 0 _ (by omega) f4 (by rw [wset_k (by decide), wset_k (by decide), wset_k (by decide), wset_s]) (by rw [wset_k (by decide), wset_k (by decide), wset_s]) (by rw [wset_k (by decide), wset_s]) wset_s (fun q hq => absurd hq (by omega))
  refine ⟨w2, ?_, b2⟩
  refine Cl.of rfl rfl rfl (lc := [some (vR (sg 13)), none]) rfl ?_
  refine Rn.cv 60 rfl rfl rfl rfl rfl (m_get (k := 6) (v := nI o) hb rfl (by decide) h7) (by decide) ?_
  refine Rn.cv 60 rfl rfl rfl rfl rfl (m_get (k := 7) (v := nI sp) (e f1).2 rfl (by decide) (by rw [(e f1).1]; exact h8)) (by decide) ?_
  refine Rn.cv 60 rfl rfl rfl rfl rfl (m_get (k := 1) (v := nI nr) (e f2).2 rfl (by decide) (by rw [(e f2).1]; exact h2)) (by decide) ?_
  refine Rn.cv 60 rfl rfl rfl rfl rfl (m_get (k := 2) (v := nI ti) (e f3).2 rfl (by decide) (by rw [(e f3).1]; exact h3)) (by decide) ?_
  exact Rn.at 3 rfl b1
def vS (c : Nat → Nat) (nr o : Nat) (wf : Nat → Nat) (g sp n p : Nat) : Nat × Bool := match vtN c nr o wf g sp n p with
  | some q => (sp ||| 2 ^ q, false)
  | none => (sp, true)
theorem m_vet {w : Wd} {c : Nat → Nat} {nr ti o sp0 g : Nat} {wf : Nat → Nat} (hc : PlOk c) (h : MPl w c) (hk : MWk w c nr ti o sp0 wf) (hd : DyOk c nr ti o sp0 wf) (hg : g < c 3) {x1 x4 : Option AV} {sp : Nat} (hs : sp < 32) : ∀ n p x7, p + n = c 4 → ∃ p' x7', ∀ r, Rn none 5 jM_dawns (167, [some (vR (sg 13)), x1, some (vI (nI (vS c nr o wf g sp n p).1)), some (vI (nI g)), x4, some (vI (bI (vS c nr o wf g sp n p).2)), some (vI (nI p')), x7'], [], w) r → Rn none 5 jM_dawns (79, [some (vR (sg 13)), x1, some (vI (nI sp)), some (vI (nI g)), x4, some (vI (bI true)), some (vI (nI p)), x7], [], w) r := by
  have hc3 := hc.2.1
  have hc4 := hc.2.2.1
  intro n
  induction n with
  | zero =>
    intro p x7 hp
    obtain rfl : p = c 4 := by omega
    refine ⟨c 4, x7, fun r k => ?_⟩
    refine Rn.cv 60 rfl rfl rfl rfl rfl (m_P h) (by decide) ?_
    exact Rn.if2t 60 rfl rfl (nI_le (Nat.le_refl _) (by omega)) k
  | succ n ih =>
    intro p x7 hp
    have hpl : p < c 4 := by omega
    obtain ⟨q0, q1, _, q3⟩ := hc.2.2.2.2 p hpl
    have w8 := hd.2.2.2.2 p hpl
    have head : ∀ r, Rn none 5 jM_dawns (120, [some (vR (sg 13)), x1, some (vI (nI sp)), some (vI (nI g)), x4, some (vI (bI true)), some (vI (nI p)), x7], [vI (bI (decide (so c p = 4) && !sp.testBit p))], w) r → Rn none 5 jM_dawns (79, [some (vR (sg 13)), x1, some (vI (nI sp)), some (vI (nI g)), x4, some (vI (bI true)), some (vI (nI p)), x7], [], w) r := by
      intro r k
      refine Rn.cv 60 rfl rfl rfl rfl rfl (m_P h) (by decide) ?_
      refine Rn.if2f 60 rfl rfl (nI_ge hpl (by omega)) ?_
      refine Rn.if2f 60 rfl rfl (by dsimp only [tm_c2P]; decide) ?_
      refine Rn.cv 60 rfl rfl rfl rfl rfl (m_so hc h hpl) (by decide) ?_
      by_cases e4 : so c p = 4
      · rw [decide_eq_true e4, Bool.true_and] at k
        refine Rn.if2f 60 rfl rfl (by dsimp only [tm_c2P]; rw [e4]; exact fun z => z rfl) ?_
        cases hb : sp.testBit p with
        | true =>
          rw [hb] at k
          refine Rn.if1t 60 rfl rfl (by dsimp only [tm_c2P]; rw [nJ_bit (by omega) (by omega), hb]; decide) ?_
          exact Rn.at 1 rfl k
        | false =>
          rw [hb] at k
          refine Rn.if1f 60 rfl rfl (by dsimp only [tm_c2P]; rw [nJ_bit (by omega) (by omega), hb]; decide) ?_
          exact Rn.at 2 rfl k
      · rw [decide_eq_false e4, Bool.false_and] at k
        refine Rn.if2t 60 rfl rfl (by dsimp only [tm_c2P]; rw [nI_eq (by omega) (by omega)]; exact e4) ?_
        exact Rn.at 1 rfl k
    obtain ⟨p1, x1', ih⟩ := ih (p + 1) (some (vI (bI (decide (so c p = 4) && !sp.testBit p)))) (by omega)
    by_cases hv : vto c nr o wf g sp p = true
    · have e1 : vS c nr o wf g sp (n + 1) p = (sp ||| 2 ^ p, false) := by
        unfold vS vtN
        rw [hv]
        rfl
      rw [e1]
      have hv2 := hv
      unfold vto at hv2
      simp only [Bool.and_eq_true, Bool.not_eq_true', decide_eq_true_eq] at hv2
      obtain ⟨⟨⟨v1, v2⟩, v3⟩, v4⟩ := hv2
      refine ⟨p + 1, some (vI (bI true)), fun r k => head r ?_⟩
      rw [decide_eq_true v1, v2]
      refine Rn.if1f 60 rfl rfl (by dsimp only [tm_c2P]; decide) ?_
      refine Rn.al 60 rfl rfl rfl rfl (by omega) ?_
      rw [hk.2.2.2.2 p hpl]
      refine Rn.if1f 60 rfl rfl (by dsimp only [tm_c2P]; rw [nJ_bit (by omega) (by omega), v4]; decide) ?_
      refine Rn.cv 60 rfl rfl rfl rfl rfl (m_isNear hc h hk hd hpl hg) (by decide) ?_
      rw [decide_eq_true v3]
      refine Rn.if1f 60 rfl rfl (by dsimp only [tm_c2P]; decide) ?_
      rw [nI_succ p, ← nJ_or, ← nJ_1shl (by omega)] at k
      refine Rn.cv 60 rfl rfl rfl rfl rfl (m_P h) (by decide) ?_
      refine Rn.if2 60 rfl rfl (fun _ => k) (fun _ => ?_)
      exact Rn.if2t 60 rfl rfl (by dsimp only [tm_c2P]; decide) k
    · have e1 : vS c nr o wf g sp (n + 1) p = vS c nr o wf g sp n (p + 1) := by
        unfold vS
        rw [show vtN c nr o wf g sp (n + 1) p = vtN c nr o wf g sp n (p + 1) by rw [vtN, Bool.eq_false_iff.mpr hv, cond_false]]
      rw [e1]
      refine ⟨p1, x1', fun r k => head r ?_⟩
      have k1 := ih r k
      rw [nI_succ p] at k1
      have fin : Rn none 5 jM_dawns (161, [some (vR (sg 13)), x1, some (vI (nI sp)), some (vI (nI g)), x4, some (vI (bI true)), some (vI (nI p)), some (vI (bI (decide (so c p = 4) && !sp.testBit p)))], [], w) r := Rn.at 2 rfl k1
      cases hb : decide (so c p = 4) && !sp.testBit p with
      | false =>
        rw [hb] at fin
        exact Rn.if1t 60 rfl rfl (by dsimp only [tm_c2P]; decide) fin
      | true =>
        rw [hb] at fin
        refine Rn.if1f 60 rfl rfl (by dsimp only [tm_c2P]; decide) ?_
        refine Rn.al 60 rfl rfl rfl rfl (by omega) ?_
        rw [hk.2.2.2.2 p hpl]
        cases hw : (wf p).testBit g with
        | true => exact Rn.if1t 60 rfl rfl (by dsimp only [tm_c2P]; rw [nJ_bit (by omega) (by omega), hw]; decide) fin
        | false =>
          refine Rn.if1f 60 rfl rfl (by dsimp only [tm_c2P]; rw [nJ_bit (by omega) (by omega), hw]; decide) ?_
          refine Rn.cv 60 rfl rfl rfl rfl rfl (m_isNear hc h hk hd hpl hg) (by decide) ?_
          have hn : decide (st c o p g ≤ nr) = false := by
            unfold vto at hv
            rw [hb, hw] at hv
            simpa using hv
          rw [hn]
          exact Rn.if1t 60 rfl rfl (by dsimp only [tm_c2P]; decide) fin
theorem m_tie {ti o g a b : Nat} (h : a = b) (ht : ti ≤ 2) : bI (ob ti o g a b) = if ti = 2 then bI (o.testBit g) else nI ti := by
  unfold ob
  rw [if_pos h]
  rcases (by omega : ti = 0 ∨ ti = 1 ∨ ti = 2) with rfl | rfl | rfl
  · rfl
  · rfl
  · simp
theorem daS_vS {c : Nat → Nat} {nr ti o g th sp : Nat} {wf : Nat → Nat} : daS c nr ti wf o g th sp = bif ob ti o g (su c nr o wf g true) (su c nr o wf g false) then (th ||| (bif (vS c nr o wf g sp (c 4) 0).2 then 2 ^ g else 0), (vS c nr o wf g sp (c 4) 0).1) else (th ||| 0, sp) := by
  unfold daS vS
  cases ob ti o g (su c nr o wf g true) (su c nr o wf g false)
  · simp
  · simp only [cond_true]
    cases vtN c nr o wf g sp (c 4) 0
    · rfl
    · simp
theorem m_dawns {w : Wd} {c : Nat → Nat} {nr ti o sp : Nat} {wf : Nat → Nat} (hc : PlOk c) (h : MPl w c) (hk : MWk w c nr ti o sp wf) (hd : DyOk c nr ti o sp wf) : ∃ w', Cl 6 jM_dawns [vR (sg 13)] w (none, w') ∧ MFr w w' ∧ MWk w' c nr ti (da c nr ti wf (o, sp)).1 (da c nr ti wf (o, sp)).2 wf := by
  have hc3 := hc.2.1
  have hc4 := hc.2.2.1
  have h8 := hd.2.2.1
  have ht2 := hd.2.1
  refine ⟨wset (wset w (sg 13) 18 (nI (da c nr ti wf (o, sp)).1)) (sg 13) 19 (nI (da c nr ti wf (o, sp)).2), ?_, (MFr.set (by decide)).tr (MFr.set (by decide)), ?_⟩
  · have key : ∀ n g th s x4 x5 x6 x7, g + n = c 3 → s < 32 → th < 256 → Rn none 5 jM_dawns (9, [some (vR (sg 13)), some (vI (nI th)), some (vI (nI s)), some (vI (nI g)), x4, x5, x6, x7], [], w) (none, wset (wset w (sg 13) 18 (nI (daN c nr ti wf o n g (th, s)).1)) (sg 13) 19 (nI (daN c nr ti wf o n g (th, s)).2)) := by
      intro n
      induction n with
      | zero =>
        intro g th s x4 x5 x6 x7 hg _ _
        obtain rfl : g = c 3 := by omega
        refine Rn.cv 60 rfl rfl rfl rfl rfl (m_G h) (by decide) ?_
        refine Rn.if2t 60 rfl rfl (nI_le (Nat.le_refl _) (by omega)) ?_
        exact Rn.vr 60 rfl rfl rfl rfl
      | succ n ih =>
        intro g th s x4 x5 x6 x7 hg hs hth
        have hgl : g < c 3 := by omega
        have s1 := su_le hc nr o wf g true
        have s2 := su_le hc nr o wf g false
        have hok := daS_ok hc (nr := nr) (ti := ti) (o := o) (wf := wf) hgl hth hs
        refine Rn.cv 60 rfl rfl rfl rfl rfl (m_G h) (by decide) ?_
        refine Rn.if2f 60 rfl rfl (nI_ge hgl (by omega)) ?_
        refine Rn.cv 60 rfl rfl rfl rfl rfl (m_sumOf true hc h hk hd hgl) (by decide) ?_
        refine Rn.cv 60 rfl rfl rfl rfl rfl (m_sumOf false hc h hk hd hgl) (by decide) ?_
        have hmore : (nI (su c nr o wf g true) - nI (su c nr o wf g false)).toInt = (su c nr o wf g true : Int) - su c nr o wf g false := pk_sub_toInt (by omega) (by omega)
        have z0 : (0 : Int32).toInt = 0 := by decide
        -- the rest of a gate, by what was voted
        have tail : ∀ x7, Rn none 5 jM_dawns (74, [some (vR (sg 13)), some (vI (nI th)), some (vI (nI s)), some (vI (nI g)), some (vI (nI (su c nr o wf g true) - nI (su c nr o wf g false))), x5, x6, x7], [vI (bI (ob ti o g (su c nr o wf g true) (su c nr o wf g false)))], w) (none, wset (wset w (sg 13) 18 (nI (daN c nr ti wf o (n + 1) g (th, s)).1)) (sg 13) 19 (nI (daN c nr ti wf o (n + 1) g (th, s)).2)) := by
          intro x7
          unfold daN
          rw [daS_vS] at hok ⊢
          cases hob : ob ti o g (su c nr o wf g true) (su c nr o wf g false) with
          | false =>
            rw [hob, cond_false] at hok
            have k := fun p x7 => ih (g + 1) (th ||| 0) s (some (vI (nI (su c nr o wf g true) - nI (su c nr o wf g false)))) (some (vI (bI false))) (some (vI (nI p))) x7 (by omega) hs hok.1
            have fin : Rn none 5 jM_dawns (167, [some (vR (sg 13)), some (vI (nI th)), some (vI (nI s)), some (vI (nI g)), some (vI (nI (su c nr o wf g true) - nI (su c nr o wf g false))), some (vI (bI false)), some (vI (nI 0)), x7], [], w) (none, wset (wset w (sg 13) 18 (nI (daN c nr ti wf o n (g + 1) (th ||| 0, s)).1)) (sg 13) 19 (nI (daN c nr ti wf o n (g + 1) (th ||| 0, s)).2)) := by
              have k1 := k 0 x7
              have e0 : nI (th ||| 0) = nI th ||| bI false <<< (nI g &&& 31) := by rw [bI_shl (show g < 31 by omega), nJ_or]; rfl
              rw [nI_succ g, e0] at k1
              exact Rn.at 8 rfl k1
            rw [cond_false]
            refine Rn.cv 60 rfl rfl rfl rfl rfl (m_P h) (by decide) ?_
            refine Rn.if2 60 rfl rfl (fun _ => fin) (fun _ => ?_)
            exact Rn.if2t 60 rfl rfl (by dsimp only [tm_c2P]; decide) fin
          | true =>
            rw [hob, cond_true] at hok
            rw [cond_true]
            obtain ⟨p', x7', k0⟩ := m_vet hc h hk hd hgl (x1 := some (vI (nI th))) (x4 := some (vI (nI (su c nr o wf g true) - nI (su c nr o wf g false)))) hs (c 4) 0 x7 (by omega)
            have k := ih (g + 1) (th ||| (bif (vS c nr o wf g s (c 4) 0).2 then 2 ^ g else 0)) (vS c nr o wf g s (c 4) 0).1 (some (vI (nI (su c nr o wf g true) - nI (su c nr o wf g false)))) (some (vI (bI (vS c nr o wf g s (c 4) 0).2))) (some (vI (nI p'))) x7' (by omega) hok.2 hok.1
            rw [nI_succ g, ← nJ_or, ← bI_shl (show g < 31 by omega)] at k
            refine Rn.at 3 rfl (k0 _ ?_)
            exact Rn.at 8 rfl k
        rcases Nat.lt_trichotomy (su c nr o wf g true) (su c nr o wf g false) with hl | he | hl
        · refine Rn.if1t 60 rfl rfl (by dsimp only [tm_c2P]; rw [Int32.le_iff_toInt_le, hmore, z0]; omega) ?_
          refine Rn.if1f 60 rfl rfl (by dsimp only [tm_c2P]; rw [Int32.le_iff_toInt_le, hmore, z0]; omega) ?_
          have e : ob ti o g (su c nr o wf g true) (su c nr o wf g false) = false := by
            unfold ob
            rw [if_neg (by omega), decide_eq_false (by omega)]
          have t := tail x7
          rw [e] at t
          exact Rn.at 2 rfl t
        · refine Rn.if1t 60 rfl rfl (by dsimp only [tm_c2P]; rw [Int32.le_iff_toInt_le, hmore, z0]; omega) ?_
          refine Rn.if1t 60 rfl rfl (by dsimp only [tm_c2P]; rw [Int32.le_iff_toInt_le, hmore, z0]; omega) ?_
          have t := tail x7
          rw [m_tie he ht2] at t
          by_cases e2 : ti = 2
          · rw [if_pos e2, ← nJ_bit (by omega) (show g < 32 by omega), ← hk.1] at t
            refine Rn.if2f 60 rfl rfl (by dsimp only [tm_c2P]; rw [hk.2.2.2.1, e2]; exact fun z => z rfl) ?_
            exact Rn.at 7 rfl t
          · rw [if_neg e2, ← hk.2.2.2.1] at t
            refine Rn.if2t 60 rfl rfl (by dsimp only [tm_c2P]; rw [hk.2.2.2.1, nI_eq (by omega) (by omega)]; exact e2) ?_
            exact Rn.at 2 rfl t
        · refine Rn.if1f 60 rfl rfl (by dsimp only [tm_c2P]; rw [Int32.le_iff_toInt_le, hmore, z0]; omega) ?_
          have e : ob ti o g (su c nr o wf g true) (su c nr o wf g false) = true := by
            unfold ob
            rw [if_neg (by omega), decide_eq_true hl]
          have t := tail x7
          rw [e] at t
          exact Rn.at 2 rfl t
    have k := key (c 3) 0 0 sp none none none none (by omega) hd.2.2.2.1 (by omega)
    refine Cl.of rfl rfl rfl (lc := [some (vR (sg 13)), none, none, none, none, none, none, none]) rfl ?_
    rw [← hk.2.1] at k
    exact Rn.at 7 rfl k
  · refine ⟨by rw [wset_k (by decide), wset_s], wset_s, by rw [wset_k (by decide), wset_k (by decide)]; exact hk.2.2.1, by rw [wset_k (by decide), wset_k (by decide)]; exact hk.2.2.2.1, fun p hp => ?_⟩
    rw [wset_ne (by decide), wset_ne (by decide)]
    exact hk.2.2.2.2 p hp
