/-! dawn -/
def dwM : Nat → Nat → Nat
  | 0, m => m
  | n + 1, m => dwM n (kpM m + 1)
def dwS (c : Nat → Nat) (nr ti : Nat) (wf : Nat → Nat) : Nat → Nat → (Nat → Sn) → NN → Nat → (Nat → Sn)
  | 0, _, S, _, _ => S
  | n + 1, m, S, q, dy => dwS c nr ti wf n (kpM m + 1) (kpS m S (q.1, q.2, dy, wf)) (da c nr ti wf q) (dy + 1)
def XFr (w w' : Wd) : Prop := ∀ t, (∀ p, t ≠ cit 0 p) → (∀ s, 5 ≤ s → s ≤ 9 → t ≠ sg s) → w' t = w t
theorem dw_ok {c : Nat → Nat} {nr ti : Nat} {wf : Nat → Nat} (hc : PlOk c) : ∀ n m S o sp dy, m ≤ 24 → CtOk c nr ti o sp dy wf → dy + n ≤ 999 → (∀ i, i < m → CtOk c nr ti (S i).1 (S i).2.1 (S i).2.2.1 (S i).2.2.2) → dwM n m ≤ 24 ∧ CtOk c nr ti (daI c nr ti wf n (o, sp)).1 (daI c nr ti wf n (o, sp)).2 (dy + n) wf ∧ ∀ i, i < dwM n m → CtOk c nr ti (dwS c nr ti wf n m S (o, sp) dy i).1 (dwS c nr ti wf n m S (o, sp) dy i).2.1 (dwS c nr ti wf n m S (o, sp) dy i).2.2.1 (dwS c nr ti wf n m S (o, sp) dy i).2.2.2
  | 0, m, S, o, sp, dy, hm, hok, _, hos => ⟨hm, hok, hos⟩
  | n + 1, m, S, o, sp, dy, hm, hok, hdy, hos => by
    have := dw_ok (wf := wf) hc n (kpM m + 1) (kpS m S (o, sp, dy, wf)) (da c nr ti wf (o, sp)).1 (da c nr ti wf (o, sp)).2 (dy + 1) (by have := kpM_le (m := m); omega) ⟨hc, hok.2.1.da hc, by omega, hok.2.2.2⟩ (by omega) (kpS_ok hm hok hos)
    rw [show dy + (n + 1) = dy + 1 + n by omega]
    exact this
theorem x_dawns {c : Nat → Nat} {nr ti N : Nat} {wf : Nat → Nat} (hc : PlOk c) (hN : N ≤ 20) : ∀ n i w o sp dy m x S, i + n = N → CiIs w 0 c nr ti o sp dy wf → DyOk c nr ti o sp wf → m ≤ 24 → x < 24 → AcC w (c 4) m x S → ∃ w' x', x' < 24 ∧ XFr w w' ∧ CiIs w' 0 c nr ti (daI c nr ti wf n (o, sp)).1 (daI c nr ti wf n (o, sp)).2 (dy + n) wf ∧ AcC w' (c 4) (dwM n m) x' (dwS c nr ti wf n m S (o, sp) dy) ∧ ∀ r, Rn none 19 jX_dawn (76, [some (vR (sg 0)), some (vI (nI N)), some (vI (nI N))], [], w') r → Rn none 19 jX_dawn (47, [some (vR (sg 0)), some (vI (nI N)), some (vI (nI i))], [], w) r := by
  intro n
  induction n with
  | zero =>
    intro i w o sp dy m x S hi hci hd hm hx hac
    obtain rfl : i = N := by omega
    exact ⟨w, x, hx, fun _ _ _ => rfl, hci, hac, fun r k => Rn.if2t 60 rfl rfl (nI_le (Nat.le_refl _) (by omega)) k⟩
  | succ n ih =>
    intro i w o sp dy m x S hi hci hd hm hx hac
    obtain ⟨k1, k2⟩ := sp_keep hc hci.2.1 hm hx hac
    have kc : CiIs (kpW w m x o sp dy) 0 c nr ti o sp dy wf := hci.fr (fun p => kpW_cit)
    obtain ⟨w2, r1, r2, r3⟩ := sp_rise hc kc hd
    obtain ⟨w', x', a1, a2, a3, a4, a5⟩ := ih (i + 1) w2 _ _ (dy + 1) (kpM m + 1) ((x + 1) % 24) _ (by omega) r3 (hd.da hc) (by have := kpM_le (m := m); omega) (Nat.mod_lt _ (by decide)) (k2.of (fun s _ _ j => by rw [r2 _ (fun p => sg_cit)]))
    refine ⟨w', x', a1, fun t h1 h2 => (a2 t h1 h2).trans ((r2 t h1).trans (kpW_fr h2)), ?_, a4, fun r k => ?_⟩
    · rw [show dy + (n + 1) = dy + 1 + n by omega]
      exact a3
    · have k3 := a5 r k
      rw [nI_succ i] at k3
      refine Rn.if2f 60 rfl rfl (nI_ge (by omega) (by omega)) ?_
      refine Rn.cv 60 rfl rfl rfl rfl rfl k1 (by decide) ?_
      refine Rn.cv 60 rfl rfl rfl rfl rfl r1 (by decide) ?_
      exact Rn.at 2 rfl k3
/-- what the reference writes of a dawn -/
def DFr (w w' : Wd) : Prop := (∀ t, t ≠ sg 13 → t ≠ sg 17 → t ≠ sg 19 → t ≠ sg 21 → w' t = w t) ∧ (∀ j, j ≠ 8 → j ≠ 18 → j ≠ 19 → j ≠ 21 → j ≠ 22 → w' (sg 13) j = w (sg 13) j) ∧ ∀ j, 49 ≤ j → w' (sg 17) j = w (sg 17) j
theorem DFr.tr {w w1 w2 : Wd} (h1 : DFr w w1) (h2 : DFr w1 w2) : DFr w w2 := ⟨fun t a b d e => (h2.1 t a b d e).trans (h1.1 t a b d e), fun j a b d e f => (h2.2.1 j a b d e f).trans (h1.2.1 j a b d e f), fun j a => (h2.2.2 j a).trans (h1.2.2 j a)⟩
theorem DFr.a {w w' : Wd} (h : AFr w w') : DFr w w' := ⟨fun t a _ b _ => h.1 t a b, fun j a _ _ _ _ => h.2 j a, fun j _ => by rw [h.1 _ (sg_ne (by decide)) (sg_ne (by decide))]⟩
theorem DFr.m {w w' : Wd} (h : MFr w w') : DFr w w' := ⟨fun t a _ _ b => h.1 t a b, fun j _ a b d e => h.2 j a b d e, fun j _ => by rw [h.1 _ (sg_ne (by decide)) (sg_ne (by decide))]⟩
theorem DFr.p {w : Wd} {k : Nat} {x : Int32} (hk : k < 49) : DFr w (wset w (sg 17) k x) := ⟨fun t _ a _ _ => wset_ne a, fun j _ _ _ _ _ => by rw [wset_ne (sg_ne (by decide))], fun j hj => wset_k (by omega)⟩
theorem DFr.same {w w' : Wd} (h : DFr w w') {n : Nat} (h5 : n ≠ 5) (h9 : n ≠ 9) : Same n w w' := fun t j e => by
  by_cases h13 : t = sg 13
  · subst h13
    refine h.2.1 j (fun z => ?_) (fun z => ?_) (fun z => ?_) (fun z => ?_) (fun z => ?_)
    all_goals
      subst z
      first
      | exact h5 e.symm
      | exact h9 e.symm
  · by_cases h17 : t = sg 17
    · subst h17
      refine h.2.2 j ?_
      apply Classical.byContradiction
      intro z
      rw [own_now (by omega)] at e
      exact h5 e.symm
    · by_cases h19 : t = sg 19
      · subst h19
        exact absurd e.symm h5
      · by_cases h21 : t = sg 21
        · subst h21
          exact absurd e.symm h9
        · rw [h.1 t h13 h17 h19 h21]
theorem m_dawnsN {c : Nat → Nat} {nr ti N : Nat} {wf : Nat → Nat} (hc : PlOk c) (hN : N ≤ 20) : ∀ n i w o sp dy m S, i + n = N → Mt w c nr ti o sp dy wf → DyOk c nr ti o sp wf → m ≤ 24 → AcM w (c 4) m S wf → ∃ w', DFr w w' ∧ Mt w' c nr ti (daI c nr ti wf n (o, sp)).1 (daI c nr ti wf n (o, sp)).2 (dy + n) wf ∧ AcM w' (c 4) (dwM n m) (dwS c nr ti wf n m S (o, sp) dy) wf ∧ ∀ r, Rn none 19 jM_dawn (98, [some (vR (sg 13)), some (vI (nI N)), some (vI (nI N))], [], w') r → Rn none 19 jM_dawn (41, [some (vR (sg 13)), some (vI (nI N)), some (vI (nI i))], [], w) r := by
  intro n
  induction n with
  | zero =>
    intro i w o sp dy m S hi hM hd hm ham
    obtain rfl : i = N := by omega
    exact ⟨w, ⟨fun _ _ _ _ _ => rfl, fun _ _ _ _ _ _ => rfl, fun _ _ => rfl⟩, hM, ham, fun r k => Rn.if2t 60 rfl rfl (nI_le (Nat.le_refl _) (by omega)) k⟩
  | succ n ih =>
    intro i w o sp dy m S hi hM hd hm ham
    obtain ⟨w1, a1, a2, a3⟩ := m_know (y := -(nI 1000000)) hc hM hm ham (Or.inl rfl)
    have hM1 := hM.afr a2
    obtain ⟨w2, b1, b2, b3⟩ := m_begin hc hM1.1 hM1.2
    have hM2 := hM1.mfr b2
    obtain ⟨w3, d1, d2, d3⟩ := m_dawns hc hM2.pl b3 hd
    have hM3 := hM2.mfr d2
    have hM4 := hM3.opn (o' := (da c nr ti wf (o, sp)).1)
    have hM5 := hM4.spent (sp' := (da c nr ti wf (o, sp)).2)
    have hM6 := hM5.day (dy' := dy + 1)
    have fr := ((((DFr.a a2).tr (DFr.m (b2.tr d2))).tr (DFr.p (k := 6) (x := nI (da c nr ti wf (o, sp)).1) (by decide))).tr (DFr.p (k := 7) (x := nI (da c nr ti wf (o, sp)).2) (by decide))).tr (DFr.p (k := 5) (x := nI (dy + 1)) (by decide))
    have ham6 : AcM (wset (wset (wset w3 (sg 17) 6 (nI (da c nr ti wf (o, sp)).1)) (sg 17) 7 (nI (da c nr ti wf (o, sp)).2)) (sg 17) 5 (nI (dy + 1))) (c 4) (kpM m + 1) (kpS m S (o, sp, dy, wf)) wf := (a3 wf (Or.inl ⟨rfl, fun _ _ => rfl⟩)).of (by rw [wset_ne (sg_ne (by decide)), wset_ne (sg_ne (by decide)), wset_ne (sg_ne (by decide)), (b2.tr d2).2 8 (by decide) (by decide) (by decide) (by decide)]) (by rw [wset_ne (sg_ne (by decide)), wset_ne (sg_ne (by decide)), wset_ne (sg_ne (by decide)), (b2.tr d2).1 _ (sg_ne (by decide)) (sg_ne (by decide))])
    obtain ⟨w', e1, e2, e3, e4⟩ := ih (i + 1) _ _ _ (dy + 1) (kpM m + 1) _ (by omega) hM6 (hd.da hc) (by have := kpM_le (m := m); omega) ham6
    refine ⟨w', fr.tr e1, ?_, e3, fun r k => ?_⟩
    · rw [show dy + (n + 1) = dy + 1 + n by omega]
      exact e2
    · have k3 := e4 r k
      rw [nI_succ i] at k3
      refine Rn.if2f 60 rfl rfl (nI_ge (by omega) (by omega)) ?_
      refine Rn.cv 60 rfl rfl rfl rfl rfl a1 (by decide) ?_
      refine Rn.cv 60 rfl rfl rfl rfl rfl b1 (by decide) ?_
      refine Rn.cv 60 rfl rfl rfl rfl rfl d1 (by decide) ?_
      have p6 := m_put (w := w3) (x := nI 6) (v := nI (da c nr ti wf (o, sp)).1) (k := 6) hM3.1 rfl (by decide)
      rw [← d3.1] at p6
      refine Rn.cv 60 rfl rfl rfl rfl rfl p6 (by decide) ?_
      rw [d3.1]
      have s19 : wset w3 (sg 17) 6 (nI (da c nr ti wf (o, sp)).1) (sg 13) 19 = nI (da c nr ti wf (o, sp)).2 := by rw [wset_ne (sg_ne (by decide))]; exact d3.2.1
      have p7 := m_put (w := wset w3 (sg 17) 6 (nI (da c nr ti wf (o, sp)).1)) (x := nI 7) (v := nI (da c nr ti wf (o, sp)).2) (k := 7) hM4.1 rfl (by decide)
      rw [← s19] at p7
      refine Rn.cv 60 rfl rfl rfl rfl rfl p7 (by decide) ?_
      rw [s19]
      refine Rn.cv 60 rfl rfl rfl rfl rfl (m_get (k := 5) (v := nI dy) hM5.1 rfl (by decide) hM5.2.2.2.2.2.2.1) (by decide) ?_
      have p5 := m_put (w := wset (wset w3 (sg 17) 6 (nI (da c nr ti wf (o, sp)).1)) (sg 17) 7 (nI (da c nr ti wf (o, sp)).2)) (x := nI 5) (v := nI (dy + 1)) (k := 5) hM5.1 rfl (by decide)
      rw [← nI_add dy 1] at p5
      refine Rn.cv 60 rfl rfl rfl rfl rfl p5 (by decide) ?_
      rw [nI_add dy 1]
      exact Rn.at 2 rfl k3
theorem op_dawn {x : Int32} : Op jX_dawn jM_dawn [vI x] := by
  intro w hi
  obtain ⟨hb, c, nr, ti, o, sp, dy, wf, hok, hci, hma, m, xx, S, hm, hx, hac, ham, hos⟩ := id hi.2.2.2.2.2
  have hM : Mt w c nr ti o sp dy wf := ⟨hb, hma⟩
  have hc := hok.1
  have hd := hok.2.1
  have d999 := hok.2.2.1
  have hc0 := hc.1
  by_cases h0 : 0 < c 0
  · have cx : ∀ {r0 : Rs}, Rn none 19 jX_dawn (13, [some (vR (sg 0)), some (vI x), none], [], w) r0 → Cl 20 jX_dawn [vR (sg 0), vI x] w r0 := by
      intro r0 k
      refine Cl.of rfl rfl rfl (lc := [some (vR (sg 0)), some (vI x), none]) rfl ?_
      refine Rn.cv 60 rfl rfl rfl rfl rfl (x_there hc hci) (by decide) ?_
      rw [decide_eq_true h0]
      exact Rn.if1t 60 rfl rfl (by dsimp only [tm_c2P]; decide) k
    have cm : ∀ {w : Wd} {r0 : Rs}, Mt w c nr ti o sp dy wf → Rn none 19 jM_dawn (10, [some (vR (sg 13)), some (vI x), none], [], w) r0 → Cl 20 jM_dawn [vR (sg 13), vI x] w r0 := by
      intro w r0 hM k
      refine Cl.of rfl rfl rfl (lc := [some (vR (sg 13)), some (vI x), none]) rfl ?_
      refine Rn.cv 60 rfl rfl rfl rfl rfl (m_hasCity hc hM.pl) (by decide) ?_
      rw [decide_eq_true h0]
      exact Rn.if1t 60 rfl rfl (by dsimp only [tm_c2P]; decide) k
    rcases pk_or1 (x := x) (n := 20) (by omega) with h1 | ⟨n, n1, n20, rfl⟩
    · refine op_same hi (v := -(nI 1000001)) (cx ?_) (cm hM ?_)
      · refine Rn.if2 60 rfl rfl (fun _ => Rn.ir 60 rfl rfl rfl rfl) (fun h2 => ?_)
        refine Rn.if2f 60 rfl rfl (Int32.not_le.mpr (h1.resolve_left h2)) ?_
        exact Rn.ir 60 rfl rfl rfl rfl
      · refine Rn.cs 60 rfl rfl rfl rfl (m_no1 h1) (by decide) ?_
        refine Rn.if1f 60 rfl rfl (by dsimp only [tm_c2P]; decide) ?_
        exact Rn.ir 60 rfl rfl rfl rfl
    have dx : ∀ {r0 : Rs}, Rn none 19 jX_dawn (27, [some (vR (sg 0)), some (vI (nI n)), none], [], w) r0 → Cl 20 jX_dawn [vR (sg 0), vI (nI n)] w r0 := by
      intro r0 k
      refine cx ?_
      refine Rn.if2f 60 rfl rfl (nI_nlt n1 (by omega)) ?_
      exact Rn.if2t 60 rfl rfl (nI_le (by omega) (by decide)) k
    have em : ∀ {w : Wd} {r0 : Rs}, Mt w c nr ti o sp dy wf → (999 < dy + n → r0 = (some (vI (-(nI 1000003))), w)) → (dy + n ≤ 999 → Rn none 19 jM_dawn (39, [some (vR (sg 13)), some (vI (nI n)), none], [], w) r0) → Cl 20 jM_dawn [vR (sg 13), vI (nI n)] w r0 := by
      intro w r0 hM kb kg
      refine cm hM ?_
      refine Rn.cs 60 rfl rfl rfl rfl (m_yes1 (n := 20) (by decide) (by omega) n1) (by decide) ?_
      refine Rn.if1t 60 rfl rfl (by dsimp only [tm_c2P]; decide) ?_
      refine Rn.cv 60 rfl rfl rfl rfl rfl (m_get (k := 5) (v := nI dy) hM.1 rfl (by decide) hM.2.2.2.2.2.2.1) (by decide) ?_
      rcases Nat.lt_or_ge 999 (dy + n) with hl | hl
      · refine Rn.if2f 60 rfl rfl (by dsimp only [tm_c2P]; rw [nI_add, Int32.not_le]; exact nI_lt hl (by omega)) ?_
        rw [kb hl]
        exact Rn.ir 60 rfl rfl rfl rfl
      · exact Rn.if2t 60 rfl rfl (by dsimp only [tm_c2P]; rw [nI_add]; exact nI_le hl (by decide)) (kg hl)
    rcases Nat.lt_or_ge 999 (dy + n) with hl | hl
    · refine op_same hi (v := -(nI 1000003)) (dx ?_) (em hM (fun _ => rfl) (fun z => by omega))
      refine Rn.if2f 60 rfl rfl (by dsimp only [tm_c2P]; rw [hci.2.1.2.2.2.2.1, nI_add, Int32.not_le]; exact nI_lt hl (by omega)) ?_
      exact Rn.ir 60 rfl rfl rfl rfl
    · obtain ⟨w1, x', a1, a2, a3, a4, a5⟩ := x_dawns (N := n) hc n20 n 0 w o sp dy m xx S (by omega) hci hd hm hx hac
      have esg : ∀ s, (s < 5 ∨ 9 < s) → w1 (sg s) = w (sg s) := fun s hs => a2 _ (fun p => sg_cit) (fun s' h1 h2 => sg_ne (by omega))
      have hM1 : Mt w1 c nr ti o sp dy wf := ⟨by rw [esg 13 (by omega)]; exact hb, hma.fr (esg 17 (by omega))⟩
      have ham1 : AcM w1 (c 4) m S wf := ham.of (by rw [esg 13 (by omega)]) (esg 19 (by omega))
      obtain ⟨w2, b1, b2, b3, b4⟩ := m_dawnsN (N := n) hc n20 n 0 w1 o sp dy m S (by omega) hM1 hd hm ham1
      obtain ⟨k1, k2, k3⟩ := dw_ok (wf := wf) hc n m S o sp dy hm hok hl hos
      refine ⟨w1, w2, nI (daI c nr ti wf n (o, sp)).1, dx ?_, em hM1 (fun z => by omega) (fun _ => ?_), ?_⟩
      · refine Rn.if2t 60 rfl rfl (by dsimp only [tm_c2P]; rw [hci.2.1.2.2.2.2.1, nI_add]; exact nI_le hl (by decide)) ?_
        refine Rn.at 2 rfl (a5 _ ?_)
        rw [← a3.2.1.2.2.1]
        exact Rn.ir 60 rfl rfl rfl rfl
      · refine Rn.at 2 rfl (b4 _ ?_)
        refine Rn.cv 60 rfl rfl rfl rfl rfl (m_get (k := 6) (v := nI (daI c nr ti wf n (o, sp)).1) b2.1 rfl (by decide) b2.2.2.2.2.2.2.2.1) (by decide) ?_
        exact Rn.ir 60 rfl rfl rfl rfl
      · refine hi.twn ⟨b2.1, c, nr, ti, _, _, dy + n, wf, k2, a3.fr (fun p => b1.1 _ cit_sg cit_sg cit_sg cit_sg), b2.2, dwM n m, x', _, k1, a1, a4.of (fun s s1 s2 j => by rw [b1.1 _ (sg_ne (by omega)) (sg_ne (by omega)) (sg_ne (by omega)) (sg_ne (by omega))]), b3, k3⟩ (fun q h5 h9 => ?_)
        refine Same.tr (w1 := w1) (fun t j e => ?_) (b1.same h5 h9)
        rw [a2 t (fun p z => by subst z; exact h5 e.symm) (fun s s1 s2 z => by subst z; exact h5 (e.symm.trans (own_acts s s1 s2 j)))]
  · refine op_same hi (v := -(nI 1000002)) ?_ ?_
    · refine Cl.of rfl rfl rfl (lc := [some (vR (sg 0)), some (vI x), none]) rfl ?_
      refine Rn.cv 60 rfl rfl rfl rfl rfl (x_there hc hci) (by decide) ?_
      rw [decide_eq_false h0]
      refine Rn.if1f 60 rfl rfl (by dsimp only [tm_c2P]; decide) ?_
      exact Rn.ir 60 rfl rfl rfl rfl
    · refine Cl.of rfl rfl rfl (lc := [some (vR (sg 13)), some (vI x), none]) rfl ?_
      refine Rn.cv 60 rfl rfl rfl rfl rfl (m_hasCity hc hM.pl) (by decide) ?_
      rw [decide_eq_false h0]
      refine Rn.if1f 60 rfl rfl (by dsimp only [tm_c2P]; decide) ?_
      exact Rn.ir 60 rfl rfl rfl rfl
