/-! the reference foretells: many dawns, how many, so, fewest -/
def Mt (w : Wd) (c : Nat → Nat) (nr ti o sp dy : Nat) (wf : Nat → Nat) : Prop := w (sg 13) 5 = nI 0 ∧ MaIs w 0 c nr ti o sp dy wf
theorem Mt.mfr {w w' : Wd} {c : Nat → Nat} {nr ti o sp dy : Nat} {wf : Nat → Nat} (h : Mt w c nr ti o sp dy wf) (f : MFr w w') : Mt w' c nr ti o sp dy wf := ⟨(f.2 5 (by decide) (by decide) (by decide) (by decide)).trans h.1, h.2.mfr f⟩
theorem Mt.pl {w : Wd} {c : Nat → Nat} {nr ti o sp dy : Nat} {wf : Nat → Nat} (h : Mt w c nr ti o sp dy wf) : MPl w c := h.2.pl h.1
theorem m_hasCity {w : Wd} {c : Nat → Nat} (hc : PlOk c) (h : MPl w c) : Cl 2 jM_hasCity [vR (sg 13)] w (some (vI (bI (decide (0 < c 0)))), w) := by
  have h0 := hc.1
  refine Cl.of rfl rfl rfl (lc := [some (vR (sg 13))]) rfl ?_
  refine Rn.cv 60 rfl rfl rfl rfl rfl (m_Q h) (by decide) ?_
  by_cases e : 0 < c 0
  · rw [decide_eq_true e]
    refine Rn.if1f 60 rfl rfl (nI_nle e (by omega)) ?_
    exact Rn.zr 60 rfl rfl rfl (by decide) rfl
  · rw [decide_eq_false e, show c 0 = 0 by omega]
    refine Rn.if1t 60 rfl rfl (by dsimp only [tm_c2P]; decide) ?_
    exact Rn.zr 60 rfl rfl rfl (by decide) rfl
theorem m_dawnMany {w : Wd} {c : Nat → Nat} {nr ti o sp : Nat} {wf : Nat → Nat} (hc : PlOk c) (h : MPl w c) (hk : MWk w c nr ti o sp wf) (hd : DyOk c nr ti o sp wf) {n : Nat} (hn : n ≤ 100000) : ∃ w', Cl 7 jM_dawnMany [vR (sg 13), vI (nI n)] w (none, w') ∧ MFr w w' ∧ MWk w' c nr ti (daI c nr ti wf n (o, sp)).1 (daI c nr ti wf n (o, sp)).2 wf ∧ DyOk c nr ti (daI c nr ti wf n (o, sp)).1 (daI c nr ti wf n (o, sp)).2 wf := by
  have key : ∀ m i w o sp, i + m = n → MPl w c → MWk w c nr ti o sp wf → DyOk c nr ti o sp wf → ∃ w', Rn none 6 jM_dawnMany (2, [some (vR (sg 13)), some (vI (nI n)), some (vI (nI i))], [], w) (none, w') ∧ MFr w w' ∧ MWk w' c nr ti (daI c nr ti wf m (o, sp)).1 (daI c nr ti wf m (o, sp)).2 wf ∧ DyOk c nr ti (daI c nr ti wf m (o, sp)).1 (daI c nr ti wf m (o, sp)).2 wf := by
    intro m
    induction m with
    | zero =>
      intro i w o sp hi h hk hd
      obtain rfl : i = n := by omega
      refine ⟨w, ?_, MFr.rf, hk, hd⟩
      refine Rn.if2t 60 rfl rfl (nI_le (Nat.le_refl _) (by omega)) ?_
      exact Rn.vr 60 rfl rfl rfl rfl
    | succ m ih =>
      intro i w o sp hi h hk hd
      obtain ⟨w1, a1, a2, a3⟩ := m_dawns hc h hk hd
      obtain ⟨w2, b1, b2, b3, b4⟩ := ih (i + 1) w1 _ _ (by omega) (h.mfr a2) a3 (hd.da hc)
      refine ⟨w2, ?_, a2.tr b2, b3, b4⟩
      refine Rn.if2f 60 rfl rfl (nI_ge (by omega) (by omega)) ?_
      refine Rn.cv 60 rfl rfl rfl rfl rfl a1 (by decide) ?_
      rw [nI_succ i] at b1
      exact Rn.at 2 rfl b1
  obtain ⟨w', b1, b2⟩ := key n 0 w o sp (by omega) h hk hd
  refine ⟨w', ?_, b2⟩
  refine Cl.of rfl rfl rfl (lc := [some (vR (sg 13)), some (vI (nI n)), none]) rfl ?_
  exact Rn.at 2 rfl b1
theorem bI_nat (b : Bool) : bI b = nI b.toNat := by cases b <;> rfl
theorem m_manyOf {w : Wd} {s : Nat} (h8 : s < 256) : Cl 1 jM_manyOf [vI (nI s)] w (some (vI (nI (cnt s))), w) := by
  have key : ∀ n k a, k + n = 8 → a + ((List.range' k n).map (fun i => (s.testBit i).toNat)).sum = cnt s → Rn none 0 jM_manyOf (4, [some (vI (nI s)), some (vI (nI a)), some (vI (nI k))], [], w) (some (vI (nI (cnt s))), w) := by
    intro n
    induction n with
    | zero =>
      intro k a hk ha
      obtain rfl : k = 8 := by omega
      rw [← ha]
      refine Rn.if2t 60 rfl rfl (by dsimp only [tm_c2P]; decide) ?_
      exact Rn.ir 60 rfl rfl rfl rfl
    | succ n ih =>
      intro k a hk ha
      have k1 := ih (k + 1) (a + (s.testBit k).toNat) (by omega) (by
        rw [← ha, List.range'_succ, List.map_cons, List.sum_cons, Nat.add_assoc])
      rw [nI_succ k, ← nI_add, ← bI_nat, ← nJ_bit (by omega) (show k < 32 by omega)] at k1
      refine Rn.if2f 60 rfl rfl (nI_ge (by omega) (by omega)) ?_
      exact Rn.at 10 rfl k1
  refine Cl.of rfl rfl rfl (lc := [some (vI (nI s)), none, none]) rfl ?_
  refine Rn.at 4 rfl (key 8 0 0 (by omega) ?_)
  unfold cnt
  simp [List.range']
  omega
theorem m_isSo {w : Wd} {c : Nat → Nat} {nr ti o sp dy g s n : Nat} {wf : Nat → Nat} (b : Bool) (hc : PlOk c) (h : Mt w c nr ti o sp dy wf) (hd : DyOk c nr ti o sp wf) (hg : g < c 3) (hs : s < 32) (hn : n ≤ 10) : ∃ w', Cl 8 jM_isSo [vR (sg 13), vI (nI g), vI (bI b), vI (nI s), vI (nI n)] w (some (vI (bI (soK c nr ti (wfS wf s g b (c 4)) g b n (o, sp)))), w') ∧ MFr w w' := by
  have hc3 := hc.2.1
  have hc4 := hc.2.2.1
  obtain ⟨w1, a1, a2, a3⟩ := m_begin hc h.1 h.2
  have key : ∀ m p w2 x6, p + m = c 4 → MFr w w2 → MWk w2 c nr ti o sp (wfS wf s g b p) → ∃ w3, MFr w w3 ∧ MWk w3 c nr ti o sp (wfS wf s g b (c 4)) ∧ ∀ r, Rn none 7 jM_isSo (57, [some (vR (sg 13)), some (vI (nI g)), some (vI (bI b)), some (vI (nI s)), some (vI (nI n)), some (vI (nI (c 4))), x6], [], w3) r → Rn none 7 jM_isSo (7, [some (vR (sg 13)), some (vI (nI g)), some (vI (bI b)), some (vI (nI s)), some (vI (nI n)), some (vI (nI p)), x6], [], w2) r := by
    intro m
    induction m with
    | zero =>
      intro p w2 x6 hp f hk
      obtain rfl : p = c 4 := by omega
      refine ⟨w2, f, hk, fun r k => ?_⟩
      refine Rn.cv 60 rfl rfl rfl rfl rfl (m_P (h.mfr f).pl) (by decide) ?_
      exact Rn.if2t 60 rfl rfl (nI_le (Nat.le_refl _) (by omega)) k
    | succ m ih =>
      intro p w2 x6 hp f hk
      have hpl : p < c 4 := by omega
      have e0 : wfS wf s g b p p = wf p := by unfold wfS; rw [if_neg (by omega)]
      cases hb : s.testBit p with
      | false =>
        obtain ⟨w3, g1, g2, g3⟩ := ih (p + 1) w2 x6 (by omega) f ⟨hk.1, hk.2.1, hk.2.2.1, hk.2.2.2.1, fun q hq => by
          rw [hk.2.2.2.2 q hq]
          unfold wfS
          by_cases e : q = p
          · subst e
            rw [if_neg (by omega), if_neg (by rw [hb]; exact fun z => by cases z.2)]
          · by_cases e2 : q < p
            · simp [e2, show q < p + 1 by omega]
            · simp [e2, show ¬ q < p + 1 by omega]⟩
        refine ⟨w3, g1, g2, fun r k => ?_⟩
        refine Rn.cv 60 rfl rfl rfl rfl rfl (m_P (h.mfr f).pl) (by decide) ?_
        refine Rn.if2f 60 rfl rfl (nI_ge hpl (by omega)) ?_
        refine Rn.if2t 60 rfl rfl (by dsimp only [tm_c2P]; rw [nJ_bit (by omega) (by omega), bI_eq1, hb]; exact fun z => by cases z) ?_
        have k2 := g3 r k
        rw [nI_succ p] at k2
        exact Rn.at 2 rfl k2
      | true =>
        obtain ⟨w3, g1, g2, g3⟩ := ih (p + 1) (wset w2 (sg 21) p (nI (sbN (wf p) g b))) x6 (by omega) (f.tr MFr.wis) ⟨by rw [wset_ne (by decide)]; exact hk.1, by rw [wset_ne (by decide)]; exact hk.2.1, by rw [wset_ne (by decide)]; exact hk.2.2.1, by rw [wset_ne (by decide)]; exact hk.2.2.2.1, fun q hq => by
          by_cases e : q = p
          · subst e
            rw [wset_s]
            unfold wfS
            rw [if_pos ⟨by omega, hb⟩]
          · rw [wset_k e, hk.2.2.2.2 q hq]
            unfold wfS
            by_cases e2 : q < p
            · simp [e2, show q < p + 1 by omega]
            · simp [e2, show ¬ q < p + 1 by omega]⟩
        refine ⟨w3, g1, g2, fun r k => ?_⟩
        refine Rn.cv 60 rfl rfl rfl rfl rfl (m_P (h.mfr f).pl) (by decide) ?_
        refine Rn.if2f 60 rfl rfl (nI_ge hpl (by omega)) ?_
        refine Rn.if2f 60 rfl rfl (by dsimp only [tm_c2P]; rw [nJ_bit (by omega) (by omega), bI_eq1, hb]; exact fun z => z rfl) ?_
        refine Rn.al 60 rfl rfl rfl rfl (by omega) ?_
        rw [hk.2.2.2.2 p hpl, e0]
        refine Rn.as 60 rfl rfl rfl rfl (by omega) ?_
        dsimp only
        rw [nJ_1shl (by omega), nJ_clr g (by omega) _ (hd.2.2.2.2 p hpl), bI_shl (by omega), nJ_or]
        have k2 := g3 r k
        rw [nI_succ p] at k2
        exact Rn.at 2 rfl k2
  obtain ⟨w3, g1, g2, g3⟩ := key (c 4) 0 w1 none (by omega) a2 ⟨a3.1, a3.2.1, a3.2.2.1, a3.2.2.2.1, fun q hq => by
    unfold wfS
    rw [if_neg (by omega)]
    exact a3.2.2.2.2 q hq⟩
  have hd3 : DyOk c nr ti o sp (wfS wf s g b (c 4)) := ⟨hd.1, hd.2.1, hd.2.2.1, hd.2.2.2.1, fun p hp => by
    unfold wfS
    split
    · exact sbN_lt (hd.2.2.2.2 p hp) (by omega)
    · exact hd.2.2.2.2 p hp⟩
  have key2 : ∀ m i w4 o sp, i + m = n → MFr w w4 → MWk w4 c nr ti o sp (wfS wf s g b (c 4)) → DyOk c nr ti o sp (wfS wf s g b (c 4)) → ∃ w5, MFr w w5 ∧ Rn none 7 jM_isSo (63, [some (vR (sg 13)), some (vI (nI g)), some (vI (bI b)), some (vI (nI s)), some (vI (nI n)), some (vI (bI true)), some (vI (nI i))], [], w4) (some (vI (bI (soK c nr ti (wfS wf s g b (c 4)) g b m (o, sp)))), w5) := by
    intro m
    induction m with
    | zero =>
      intro i w4 o sp hi f hk hd
      obtain rfl : i = n := by omega
      refine ⟨w4, f, ?_⟩
      refine Rn.if2t 60 rfl rfl (nI_le (Nat.le_refl _) (by omega)) ?_
      exact Rn.zr 60 rfl rfl rfl (by decide) rfl
    | succ m ih =>
      intro i w4 o sp hi f hk hd
      obtain ⟨w5, b1, b2, b3⟩ := m_dawns hc (h.mfr f).pl hk hd
      have hd5 := hd.da hc
      have o8 := hd5.2.2.1
      by_cases e : (da c nr ti (wfS wf s g b (c 4)) (o, sp)).1.testBit g = b
      · obtain ⟨w6, d1, d2⟩ := ih (i + 1) w5 _ _ (by omega) (f.tr b2) b3 hd5
        refine ⟨w6, d1, ?_⟩
        unfold soK
        rw [if_pos e]
        refine Rn.if2f 60 rfl rfl (nI_ge (by omega) (by omega)) ?_
        refine Rn.if1f 60 rfl rfl (by dsimp only [tm_c2P]; decide) ?_
        refine Rn.cv 60 rfl rfl rfl rfl rfl b1 (by decide) ?_
        refine Rn.if2f 60 rfl rfl (by dsimp only [tm_c2P]; rw [b3.1, nJ_bit (by omega) (by omega), e]; exact fun z => z rfl) ?_
        rw [nI_succ i] at d2
        exact Rn.at 5 rfl d2
      · refine ⟨w5, f.tr b2, ?_⟩
        unfold soK
        rw [if_neg e]
        refine Rn.if2f 60 rfl rfl (nI_ge (by omega) (by omega)) ?_
        refine Rn.if1f 60 rfl rfl (by dsimp only [tm_c2P]; decide) ?_
        refine Rn.cv 60 rfl rfl rfl rfl rfl b1 (by decide) ?_
        refine Rn.if2t 60 rfl rfl (by dsimp only [tm_c2P]; rw [b3.1, nJ_bit (by omega) (by omega), bI_inj]; exact e) ?_
        refine Rn.if2 60 rfl rfl (fun _ => Rn.zr 60 rfl rfl rfl (by decide) rfl) (fun _ => ?_)
        refine Rn.if1t 60 rfl rfl (by dsimp only [tm_c2P]; decide) ?_
        exact Rn.zr 60 rfl rfl rfl (by decide) rfl
  obtain ⟨w5, l1, l2⟩ := key2 n 0 w3 o sp (by omega) g1 g2 hd3
  refine ⟨w5, ?_, l1⟩
  refine Cl.of rfl rfl rfl (lc := [some (vR (sg 13)), some (vI (nI g)), some (vI (bI b)), some (vI (nI s)), some (vI (nI n)), none, none]) rfl ?_
  refine Rn.cv 60 rfl rfl rfl rfl rfl a1 (by decide) ?_
  refine Rn.at 2 rfl (g3 _ ?_)
  exact Rn.at 4 rfl l2
/-- how many, or which: what won and kept answer -/
def moS (a : Option Nat) (k : Nat) : Int32 := match a with
  | none => -(nI 1000000)
  | some f => if k = 1 then nI f else nI (cnt f)
theorem feI_none {a : Option Nat} (h : ∀ f, a = some f → f < 256) : feI a = -(nI 1000000) ↔ a = none := by
  cases a with
  | none => exact ⟨fun _ => rfl, fun _ => rfl⟩
  | some f =>
    have hf := h f rfl
    constructor
    · intro z
      exfalso
      have z : nI f = -(nI 1000000) := z
      have z2 := congrArg Int32.toInt z
      rw [nI_toInt (by omega)] at z2
      have e : (-(nI 1000000)).toInt = -1000000 := by decide
      omega
    · intro z
      cases z
theorem x_manyOrSet {w : Wd} {a : Option Nat} {k : Nat} (h : ∀ f, a = some f → f < 256) (hk : k < 2) : Cl 2 jX_manyOrSet [vI (feI a), vI (nI k)] w (some (vI (moS a k)), w) := by
  refine Cl.of rfl rfl rfl (lc := [some (vI (feI a)), some (vI (nI k))]) rfl ?_
  refine Rn.if2 60 rfl rfl (fun h1 => ?_) (fun h1 => ?_)
  · dsimp only [tm_c2P] at h1
    rw [feI_none h] at h1
    subst h1
    exact Rn.ir 60 rfl rfl rfl rfl
  · dsimp only [tm_c2P] at h1
    rw [feI_none h] at h1
    cases a with
    | none => exact absurd rfl h1
    | some f =>
      by_cases e : k = 1
      · refine Rn.if2f 60 rfl rfl (by dsimp only [tm_c2P]; rw [e]; exact fun z => z rfl) ?_
        refine Rn.ir 60 rfl rfl rfl ?_
        unfold moS
        dsimp only
        rw [if_pos e]
        rfl
      · refine Rn.if2t 60 rfl rfl (by dsimp only [tm_c2P]; rw [nI_eq (by omega) (by omega)]; exact e) ?_
        refine Rn.cs 60 rfl rfl rfl rfl (sp_bitCount (h f rfl)) (by decide) ?_
        refine Rn.ir 60 rfl rfl rfl ?_
        unfold moS
        dsimp only
        rw [if_neg e]
theorem m_fewest {w : Wd} {c : Nat → Nat} {nr ti o sp dy g n k : Nat} {wf : Nat → Nat} (b : Bool) (hc : PlOk c) (h : Mt w c nr ti o sp dy wf) (hd : DyOk c nr ti o sp wf) (hg : g < c 3) (hn : n ≤ 10) (hk : k < 2) : ∃ w', Cl 9 jM_fewest [vR (sg 13), vI (nI g), vI (bI b), vI (nI n), vI (nI k)] w (some (vI (moS (feN (fun s => soK c nr ti (wfS wf s g b (c 4)) g b n (o, sp)) (2 ^ c 4) 0 none) k)), w') ∧ MFr w w' := by
  have hc3 := hc.2.1
  have hc4 := hc.2.2.1
  have hp4 : 2 ^ c 4 ≤ 32 := Nat.pow_le_pow_right (n := 2) (by decide) hc4
  have key : ∀ m s a w2 x7, s + m = 2 ^ c 4 → (∀ f, a = some f → f < 32) → MFr w w2 → ∃ w3, MFr w w3 ∧ Rn none 8 jM_fewest (7, [some (vR (sg 13)), some (vI (nI g)), some (vI (bI b)), some (vI (nI n)), some (vI (nI k)), some (vI (feI a)), some (vI (nI s)), x7], [], w2) (some (vI (moS (feN (fun s => soK c nr ti (wfS wf s g b (c 4)) g b n (o, sp)) m s a) k)), w3) := by
    intro m
    induction m with
    | zero =>
      intro s a w2 x7 hs ha f
      obtain rfl : s = 2 ^ c 4 := by omega
      refine ⟨w2, f, ?_⟩
      have h2 := m_P (h.mfr f).pl
      refine Rn.cv 60 rfl rfl rfl rfl rfl h2 (by decide) ?_
      refine Rn.if2t 60 rfl rfl (by dsimp only [tm_c2P]; rw [nJ_1shl (by omega)]; exact nI_le (Nat.le_refl _) (by omega)) ?_
      refine Rn.if2 60 rfl rfl (fun h1 => ?_) (fun h1 => ?_)
      · dsimp only [tm_c2P] at h1
        rw [feI_none (fun f hf => by have := ha f hf; omega)] at h1
        subst h1
        exact Rn.ir 60 rfl rfl rfl rfl
      · dsimp only [tm_c2P] at h1
        rw [feI_none (fun f hf => by have := ha f hf; omega)] at h1
        cases a with
        | none => exact absurd rfl h1
        | some f =>
          have hf := ha f rfl
          unfold feN moS
          dsimp only
          by_cases e : k = 1
          · rw [if_pos e]
            refine Rn.if2f 60 rfl rfl (by dsimp only [tm_c2P]; rw [e]; exact fun z => z rfl) ?_
            exact Rn.ir 60 rfl rfl rfl rfl
          · rw [if_neg e]
            refine Rn.if2t 60 rfl rfl (by dsimp only [tm_c2P]; rw [nI_eq (by omega) (by omega)]; exact e) ?_
            refine Rn.cs 60 rfl rfl rfl rfl (m_manyOf (s := f) (by omega)) (by decide) ?_
            exact Rn.ir 60 rfl rfl rfl rfl
    | succ m ih =>
      intro s a w2 x7 hs ha f
      have hc8 := cnt_le s
      have head : ∀ r, Rn none 8 jM_fewest (44, [some (vR (sg 13)), some (vI (nI g)), some (vI (bI b)), some (vI (nI n)), some (vI (nI k)), some (vI (feI a)), some (vI (nI s)), x7], [vI (bI (feQ a s))], w2) r → Rn none 8 jM_fewest (7, [some (vR (sg 13)), some (vI (nI g)), some (vI (bI b)), some (vI (nI n)), some (vI (nI k)), some (vI (feI a)), some (vI (nI s)), x7], [], w2) r := by
        intro r kk
        refine Rn.cv 60 rfl rfl rfl rfl rfl (m_P (h.mfr f).pl) (by decide) ?_
        refine Rn.if2f 60 rfl rfl (by dsimp only [tm_c2P]; rw [nJ_1shl (by omega)]; exact nI_ge (by omega) (by omega)) ?_
        refine Rn.if2 60 rfl rfl (fun h1 => ?_) (fun h1 => ?_)
        · dsimp only [tm_c2P] at h1
          rw [feI_none (fun f hf => by have := ha f hf; omega)] at h1
          subst h1
          exact Rn.at 2 rfl kk
        · dsimp only [tm_c2P] at h1
          rw [feI_none (fun f hf => by have := ha f hf; omega)] at h1
          cases a with
          | none => exact absurd rfl h1
          | some q =>
            have hq := ha q rfl
            have hq8 := cnt_le q
            refine Rn.cs 60 rfl rfl rfl rfl (m_manyOf (s := s) (by omega)) (by decide) ?_
            refine Rn.cs 60 rfl rfl rfl rfl (m_manyOf (s := q) (by omega)) (by decide) ?_
            by_cases e : cnt s < cnt q
            · rw [show feQ (some q) s = true from decide_eq_true e] at kk
              refine Rn.if2f 60 rfl rfl (nI_ge e (by omega)) ?_
              exact Rn.at 2 rfl kk
            · rw [show feQ (some q) s = false from decide_eq_false e] at kk
              refine Rn.if2t 60 rfl rfl (nI_le (by omega) (by omega)) ?_
              exact Rn.at 1 rfl kk
      have fin : ∀ a' w4, (∀ f, a' = some f → f < 32) → MFr w w4 → ∃ w3, MFr w w3 ∧ Rn none 8 jM_fewest (70, [some (vR (sg 13)), some (vI (nI g)), some (vI (bI b)), some (vI (nI n)), some (vI (nI k)), some (vI (feI a)), some (vI (nI s)), some (vI (bI (feQ a s)))], [vI (feI a')], w4) (some (vI (moS (feN (fun s => soK c nr ti (wfS wf s g b (c 4)) g b n (o, sp)) m (s + 1) a') k)), w3) := by
        intro a' w4 ha' f4
        obtain ⟨w3, d1, d2⟩ := ih (s + 1) a' w4 (some (vI (bI (feQ a s)))) (by omega) ha' f4
        refine ⟨w3, d1, ?_⟩
        rw [nI_succ s] at d2
        exact Rn.at 3 rfl d2
      unfold feN
      cases hq : feQ a s with
      | false =>
        obtain ⟨w3, d1, d2⟩ := fin a w2 ha f
        refine ⟨w3, d1, head _ ?_⟩
        rw [hq] at d2 ⊢
        rw [Bool.false_and, if_neg (by decide)]
        refine Rn.if1t 60 rfl rfl (by dsimp only [tm_c2P]; decide) ?_
        exact Rn.at 1 rfl d2
      | true =>
        obtain ⟨w4, e1, e2⟩ := m_isSo (s := s) b hc (h.mfr f) hd hg (by omega) hn
        rw [Bool.true_and]
        cases ht : soK c nr ti (wfS wf s g b (c 4)) g b n (o, sp) with
        | false =>
          obtain ⟨w3, d1, d2⟩ := fin a w4 ha (f.tr e2)
          refine ⟨w3, d1, head _ ?_⟩
          rw [hq] at d2 ⊢
          rw [ht] at e1
          rw [if_neg (by decide)]
          refine Rn.if1f 60 rfl rfl (by dsimp only [tm_c2P]; decide) ?_
          refine Rn.cv 60 rfl rfl rfl rfl rfl e1 (by decide) ?_
          refine Rn.if1t 60 rfl rfl (by dsimp only [tm_c2P]; decide) ?_
          exact Rn.at 1 rfl d2
        | true =>
          obtain ⟨w3, d1, d2⟩ := fin (some s) w4 (fun f hf => by cases hf; omega) (f.tr e2)
          refine ⟨w3, d1, head _ ?_⟩
          rw [hq] at d2 ⊢
          rw [ht] at e1
          rw [if_pos rfl]
          refine Rn.if1f 60 rfl rfl (by dsimp only [tm_c2P]; decide) ?_
          refine Rn.cv 60 rfl rfl rfl rfl rfl e1 (by decide) ?_
          refine Rn.if1f 60 rfl rfl (by dsimp only [tm_c2P]; decide) ?_
          exact Rn.at 2 rfl d2
  obtain ⟨w3, d1, d2⟩ := key (2 ^ c 4) 0 none w none (by omega) (fun f hf => by cases hf) MFr.rf
  refine ⟨w3, ?_, d1⟩
  refine Cl.of rfl rfl rfl (lc := [some (vR (sg 13)), some (vI (nI g)), some (vI (bI b)), some (vI (nI n)), some (vI (nI k)), none, none, none]) rfl ?_
  exact Rn.at 4 rfl d2
