/-! laws, sold, round -/
def liI (a : Option (Nat × Nat)) : Int32 := match a with
  | none => -(nI 1000000)
  | some (l, _) => nI l
def lmI (a : Option (Nat × Nat)) : Int32 := match a with
  | none => -(nI 1000000)
  | some (_, m) => nI m
theorem MWk.law {w : Wd} {c : Nat → Nat} {nr ti o sp x y : Nat} {wf : Nat → Nat} (h : MWk w c nr ti o sp wf) : MWk (wset (wset w (sg 13) 21 (nI x)) (sg 13) 22 (nI y)) c x y o sp wf := by
  refine ⟨by rw [wset_k (by decide), wset_k (by decide)]; exact h.1, by rw [wset_k (by decide), wset_k (by decide)]; exact h.2.1, by rw [wset_k (by decide), wset_s], wset_s, fun q hq => ?_⟩
  rw [wset_ne (by decide), wset_ne (by decide)]
  exact h.2.2.2.2 q hq
theorem laS_lt {G : Nat → Nat} : ∀ n i a, (∀ l m, a = some (l, m) → l < i) → ∀ l m, laS G n i a = some (l, m) → l < i + n
  | 0, i, a, h, l, m, e => h l m e
  | n + 1, i, a, h, l, m, e => by
    unfold laS at e
    have := laS_lt n (i + 1) _ (fun l' m' h' => by
      unfold laQ at h'
      split at h'
      · cases h'
        omega
      · next l0 m0 =>
        split at h'
        · cases h'
          omega
        · cases h'
          have := h _ _ rfl
          omega) l m e
    omega
theorem laS_some {G : Nat → Nat} : ∀ n i a, a ≠ none → laS G n i a ≠ none
  | 0, _, _, h => h
  | n + 1, i, a, h => by
    unfold laS
    refine laS_some n (i + 1) _ ?_
    unfold laQ
    split
    · exact fun z => by cases z
    · split
      · exact fun z => by cases z
      · exact fun z => by cases z
theorem op_laws {x y : Int32} : Op jX_laws jM_laws [vI x, vI y] := by
  intro w hi
  obtain ⟨hb, c, nr, ti, o, sp, dy, wf, hok, hci, hma, hact⟩ := id hi.2.2.2.2.2
  have hM : Mt w c nr ti o sp dy wf := ⟨hb, hma⟩
  have hc := hok.1
  have hd := hok.2.1
  have hc0 := hc.1
  have hc4 := hc.2.2.1
  by_cases h0 : 0 < c 0
  · have cx : ∀ {r0 : Rs}, Rn none 19 jX_laws (13, [some (vR (sg 0)), some (vI x), some (vI y)], [], w) r0 → Cl 20 jX_laws [vR (sg 0), vI x, vI y] w r0 := by
      intro r0 k
      refine Cl.of rfl rfl rfl (lc := [some (vR (sg 0)), some (vI x), some (vI y)]) rfl ?_
      refine Rn.cv 60 rfl rfl rfl rfl rfl (x_there hc hci) (by decide) ?_
      rw [decide_eq_true h0]
      exact Rn.if1t 60 rfl rfl (by dsimp only [tm_c2P]; decide) k
    have cm : ∀ {w : Wd} {r0 : Rs}, Mt w c nr ti o sp dy wf → Rn none 19 jM_laws (10, [some (vR (sg 13)), some (vI x), some (vI y), none, none, none, none], [], w) r0 → Cl 20 jM_laws [vR (sg 13), vI x, vI y] w r0 := by
      intro w r0 hM k
      refine Cl.of rfl rfl rfl (lc := [some (vR (sg 13)), some (vI x), some (vI y), none, none, none, none]) rfl ?_
      refine Rn.cv 60 rfl rfl rfl rfl rfl (m_hasCity hc hM.pl) (by decide) ?_
      rw [decide_eq_true h0]
      exact Rn.if1t 60 rfl rfl (by dsimp only [tm_c2P]; decide) k
    rcases pk_or1 (x := x) (n := 10) (by omega) with h1 | ⟨n, n1, n10, rfl⟩
    · refine op_same hi (v := -(nI 1000001)) (cx ?_) (cm hM ?_)
      · refine Rn.if2 60 rfl rfl (fun _ => Rn.ir 60 rfl rfl rfl rfl) (fun h2 => ?_)
        refine Rn.if2t 60 rfl rfl (h1.resolve_left h2) ?_
        exact Rn.ir 60 rfl rfl rfl rfl
      · refine Rn.cs 60 rfl rfl rfl rfl (m_no1 h1) (by decide) ?_
        refine Rn.if1t 60 rfl rfl (by dsimp only [tm_c2P]; decide) ?_
        exact Rn.ir 60 rfl rfl rfl rfl
    have dx : ∀ {r0 : Rs}, Rn none 19 jX_laws (24, [some (vR (sg 0)), some (vI (nI n)), some (vI y)], [], w) r0 → Cl 20 jX_laws [vR (sg 0), vI (nI n), vI y] w r0 := by
      intro r0 k
      refine cx ?_
      refine Rn.if2f 60 rfl rfl (nI_nlt n1 (by omega)) ?_
      exact Rn.if2f 60 rfl rfl (nI_nlt (by omega) (by omega)) k
    have dm : ∀ {w : Wd} {r0 : Rs}, Mt w c nr ti o sp dy wf → Rn none 19 jM_laws (20, [some (vR (sg 13)), some (vI (nI n)), some (vI y), none, none, none, none], [], w) r0 → Cl 20 jM_laws [vR (sg 13), vI (nI n), vI y] w r0 := by
      intro w r0 hM k
      refine cm hM ?_
      refine Rn.cs 60 rfl rfl rfl rfl (m_yes1 (n := 10) (by decide) (by omega) n1) (by decide) ?_
      exact Rn.if1f 60 rfl rfl (by dsimp only [tm_c2P]; decide) k
    rcases pk_or (x := y) (n := 3) (by omega) with h1 | ⟨k, hk, rfl⟩
    · refine op_same hi (v := -(nI 1000001)) (dx ?_) (dm hM ?_)
      · refine Rn.if1 60 rfl rfl (fun _ => Rn.ir 60 rfl rfl rfl rfl) (fun h2 => ?_)
        refine Rn.if2f 60 rfl rfl (Int32.not_le.mpr (nI_lt1 (n := 2) (by decide) (h1.resolve_left h2))) ?_
        exact Rn.ir 60 rfl rfl rfl rfl
      · refine Rn.cs 60 rfl rfl rfl rfl (m_no (n := 2) (by decide) h1) (by decide) ?_
        refine Rn.if1f 60 rfl rfl (by dsimp only [tm_c2P]; decide) ?_
        exact Rn.ir 60 rfl rfl rfl rfl
    obtain ⟨w1, f1, f2, f3⟩ := sp_findLaw hc (TwnI.now hci) hd (n := n) (by omega)
    have hM1 := hM.seer (FrR.oS f2)
    generalize hG : laG c wf (o, sp) n = G at f3
    have key : ∀ m i a w4 x6, i + m = 12 → (∀ l q, a = some (l, q) → q ≤ 8) → MFr w1 w4 → ∃ w5 x6', MFr w1 w5 ∧ ∀ r, Rn none 19 jM_laws (123, [some (vR (sg 13)), some (vI (nI n)), some (vI (nI k)), some (vI (liI (laS G m i a))), some (vI (lmI (laS G m i a))), some (vI (nI 12)), x6'], [], w5) r → Rn none 19 jM_laws (42, [some (vR (sg 13)), some (vI (nI n)), some (vI (nI k)), some (vI (liI a)), some (vI (lmI a)), some (vI (nI i)), x6], [], w4) r := by
      intro m
      induction m with
      | zero =>
        intro i a w4 x6 hi ha8 f
        obtain rfl : i = 12 := by omega
        refine ⟨w4, x6, f, fun r kk => ?_⟩
        exact Rn.if2t 60 rfl rfl (by dsimp only [tm_c2P]; decide) kk
      | succ m ih =>
        intro i a w4 x6 hi ha8 f
        obtain ⟨w5, i1, i2, i3⟩ := m_begin hc (hM1.mfr f).1 (hM1.mfr f).2
        have f6 := ((f.tr i2).tr (MFr.set (j := 21) (x := nI (i / 3)) (by decide))).tr (MFr.set (j := 22) (x := nI (i % 3)) (by decide))
        have k6 := i3.law (x := i / 3) (y := i % 3)
        have hd6 : DyOk c (i / 3) (i % 3) o sp wf := ⟨by omega, by omega, hd.2.2.1, hd.2.2.2.1, hd.2.2.2.2⟩
        obtain ⟨w7, j1, j2, j3, j4⟩ := m_dawnMany hc (hM1.mfr f6).pl k6 hd6 (n := n) (by omega)
        have hg := m_gladBy hc (hM1.mfr (f6.tr j2)).pl j4.2.2.1
        rw [← j3.1] at hg
        have hl : bs (gl c (daI c (i / 3) (i % 3) wf n (o, sp)).1) (c 4) < 256 := by
          have := bs_lt (f := gl c (daI c (i / 3) (i % 3) wf n (o, sp)).1) hc4
          omega
        have hmo := m_manyOf (w := w7) hl
        have hGi : cnt (bs (gl c (daI c (i / 3) (i % 3) wf n (o, sp)).1) (c 4)) = G i := by rw [← hG]; rfl
        have hG8 : G i ≤ 8 := by rw [← hGi]; exact cnt_le _
        rw [hGi] at hmo
        have head : ∀ r, Rn none 19 jM_laws (87, [some (vR (sg 13)), some (vI (nI n)), some (vI (nI k)), some (vI (liI a)), some (vI (lmI a)), some (vI (nI i)), some (vI (nI (G i)))], [], w7) r → Rn none 19 jM_laws (42, [some (vR (sg 13)), some (vI (nI n)), some (vI (nI k)), some (vI (liI a)), some (vI (lmI a)), some (vI (nI i)), x6], [], w4) r := by
          intro r kk
          refine Rn.if2f 60 rfl rfl (nI_ge (by omega) (by omega)) ?_
          refine Rn.cv 60 rfl rfl rfl rfl rfl i1 (by decide) ?_
          refine Rn.at 10 (x := (69, [some (vR (sg 13)), some (vI (nI n)), some (vI (nI k)), some (vI (liI a)), some (vI (lmI a)), some (vI (nI i)), x6], [], wset (wset w5 (sg 13) 21 (nI i / nI 3)) (sg 13) 22 (nI i - nI i / nI 3 * nI 3))) rfl ?_
          rw [pk_rem (show i < 2 ^ 31 by omega) (by decide) (by decide), pk_div (show i < 2 ^ 31 by omega) (by decide) (by decide)]
          refine Rn.cv 60 rfl rfl rfl rfl rfl j1 (by decide) ?_
          refine Rn.cv 60 rfl rfl rfl rfl rfl hg (by decide) ?_
          refine Rn.cs 60 rfl rfl rfl rfl hmo (by decide) ?_
          exact Rn.at 1 rfl kk
        obtain ⟨w8, x6', l1, l2⟩ := ih (i + 1) (laQ G i a) w7 (some (vI (nI (G i)))) (by omega) (fun l q hq => by
          unfold laQ at hq
          split at hq
          · cases hq
            exact hG8
          · next l0 m0 =>
            split at hq
            · cases hq
              exact hG8
            · cases hq
              exact ha8 _ _ rfl) (f6.tr j2)
        refine ⟨w8, x6', l1, fun r kk => head r ?_⟩
        have l3 := l2 r kk
        rw [nI_succ i] at l3
        have yes : lmI a < nI (G i) → laQ G i a = some (i, G i) → Rn none 19 jM_laws (87, [some (vR (sg 13)), some (vI (nI n)), some (vI (nI k)), some (vI (liI a)), some (vI (lmI a)), some (vI (nI i)), some (vI (nI (G i)))], [], w7) r := by
          intro hlt hq
          rw [hq] at l3
          refine Rn.if2f 60 rfl rfl (Int32.not_le.mpr hlt) ?_
          refine Rn.at 3 rfl ?_
          refine Rn.if2f 60 rfl rfl (Int32.not_le.mpr hlt) ?_
          exact Rn.at 5 rfl l3
        cases a with
        | none => exact yes (by show -(nI 1000000) < nI (G i); rw [Int32.lt_iff_toInt_lt, nI_toInt (by omega), show (-(nI 1000000)).toInt = -1000000 by decide]; omega) rfl
        | some p =>
          obtain ⟨l, mm⟩ := p
          have h8 := ha8 l mm rfl
          by_cases e : mm < G i
          · exact yes (nI_lt e (by omega)) (by unfold laQ; dsimp only; rw [if_pos e])
          · rw [show laQ G i (some (l, mm)) = some (l, mm) from by unfold laQ; dsimp only; rw [if_neg e]] at l3
            refine Rn.if2t 60 rfl rfl (nI_le (by omega) (by omega)) ?_
            refine Rn.if2t 60 rfl rfl (nI_le (by omega) (by omega)) ?_
            exact Rn.at 4 rfl l3
    obtain ⟨w5, x6', l1, l2⟩ := key 12 0 none w1 none (by omega) (fun l q h => by cases h) MFr.rf
    cases ha : laS G 12 0 none with
    | none =>
      exact absurd ha (by
        show laS G 11 1 (some (0, G 0)) ≠ none
        exact laS_some _ _ _ (fun z => by cases z))
    | some p =>
      obtain ⟨l, m⟩ := p
      have hl12 := laS_lt 12 0 none (fun l m h => by cases h) l m ha
      rw [ha] at f3 l2
      obtain ⟨g1, g2, g3, g4⟩ : w1 (sg 10) 0 = nI (l / 3) ∧ w1 (sg 10) 1 = nI (l % 3) ∧ w1 (sg 10) 2 = nI m ∧ m ≤ 8 := f3
      have ex : ∀ {r0 : Rs}, Rn none 19 jX_laws (48, [some (vR (sg 0)), some (vI (nI n)), some (vI (nI k))], [], w1) r0 → Cl 20 jX_laws [vR (sg 0), vI (nI n), vI (nI k)] w r0 := by
        intro r0 kk
        refine dx ?_
        refine Rn.if1f 60 rfl rfl (nI_pos (by omega)) ?_
        refine Rn.if2t 60 rfl rfl (nI_le (by omega) (by decide)) ?_
        exact Rn.cv 60 rfl rfl rfl rfl rfl f1 (by decide) kk
      have em : ∀ {r0 : Rs}, Rn none 19 jM_laws (123, [some (vR (sg 13)), some (vI (nI n)), some (vI (nI k)), some (vI (nI l)), some (vI (nI m)), some (vI (nI 12)), x6'], [], w5) r0 → Cl 20 jM_laws [vR (sg 13), vI (nI n), vI (nI k)] w1 r0 := by
        intro r0 kk
        refine dm hM1 ?_
        refine Rn.cs 60 rfl rfl rfl rfl (m_yes (n := 2) (by decide) (by omega)) (by decide) ?_
        refine Rn.if1t 60 rfl rfl (by dsimp only [tm_c2P]; decide) ?_
        exact Rn.at 6 rfl (l2 _ kk)
      have hi5 := (hi.seer (FrR.oS f2)).mfr l1
      rcases (by omega : k = 0 ∨ k = 1 ∨ k = 2) with rfl | rfl | rfl
      · refine ⟨w1, w5, nI (l / 3), ex ?_, em ?_, hi5⟩
        · refine Rn.lsw 60 (t := 76) rfl rfl rfl ?_
          rw [← g1]
          exact Rn.ir 60 rfl rfl rfl rfl
        · refine Rn.if1f 60 rfl rfl (by dsimp only [tm_c2P]; decide) ?_
          rw [← pk_div (show l < 2 ^ 31 by omega) (show 0 < 3 by decide) (by decide)]
          exact Rn.ir 60 rfl rfl rfl rfl
      · refine ⟨w1, w5, nI (l % 3), ex ?_, em ?_, hi5⟩
        · refine Rn.lsw 60 (t := 84) rfl rfl rfl ?_
          rw [← g2]
          exact Rn.ir 60 rfl rfl rfl rfl
        · refine Rn.if1t 60 rfl rfl (by dsimp only [tm_c2P]; decide) ?_
          refine Rn.if2f 60 rfl rfl (by dsimp only [tm_c2P]; decide) ?_
          rw [← pk_rem (show l < 2 ^ 31 by omega) (show 0 < 3 by decide) (by decide)]
          exact Rn.ir 60 rfl rfl rfl rfl
      · refine ⟨w1, w5, nI m, ex ?_, em ?_, hi5⟩
        · refine Rn.lsw 60 (t := 92) rfl rfl rfl ?_
          rw [← g3]
          exact Rn.ir 60 rfl rfl rfl rfl
        · refine Rn.if1t 60 rfl rfl (by dsimp only [tm_c2P]; decide) ?_
          refine Rn.if2t 60 rfl rfl (by dsimp only [tm_c2P]; decide) ?_
          exact Rn.ir 60 rfl rfl rfl rfl
  · refine op_same hi (v := -(nI 1000002)) ?_ ?_
    · refine Cl.of rfl rfl rfl (lc := [some (vR (sg 0)), some (vI x), some (vI y)]) rfl ?_
      refine Rn.cv 60 rfl rfl rfl rfl rfl (x_there hc hci) (by decide) ?_
      rw [decide_eq_false h0]
      refine Rn.if1f 60 rfl rfl (by dsimp only [tm_c2P]; decide) ?_
      exact Rn.ir 60 rfl rfl rfl rfl
    · refine Cl.of rfl rfl rfl (lc := [some (vR (sg 13)), some (vI x), some (vI y), none, none, none, none]) rfl ?_
      refine Rn.cv 60 rfl rfl rfl rfl rfl (m_hasCity hc hM.pl) (by decide) ?_
      rw [decide_eq_false h0]
      refine Rn.if1f 60 rfl rfl (by dsimp only [tm_c2P]; decide) ?_
      exact Rn.ir 60 rfl rfl rfl rfl
theorem m_isWish_is {w : Wd} {c : Nat → Nat} (hc : PlOk c) (h : MPl w c) (x : Int32) : Cl 2 jM_isWish [vR (sg 13), vI x] w (some (vI (bI (decide (nI 0 ≤ x) && decide (x ≤ nI (2 ^ c 3) - nI 1)))), w) := by
  have hc3 := hc.2.1
  refine Cl.of rfl rfl rfl (lc := [some (vR (sg 13)), some (vI x)]) rfl ?_
  refine Rn.cv 60 rfl rfl rfl rfl rfl (m_G h) (by decide) ?_
  have k := m_in (w := w) (x := x) (y := nI 0) (z := nI (2 ^ c 3) - nI 1)
  rw [← nJ_1shl (show c 3 < 32 by omega)] at k
  refine Rn.cs 60 rfl rfl rfl rfl k (by decide) ?_
  rw [nJ_1shl (by omega)]
  exact Rn.zr 60 rfl rfl rfl (bI01 _) rfl
theorem m_wno {w : Wd} {c : Nat → Nat} {x : Int32} (hc : PlOk c) (h : MPl w c) (hx : x < 0 ∨ nI (2 ^ c 3) ≤ x) : Cl 2 jM_isWish [vR (sg 13), vI x] w (some (vI (bI false)), w) := by
  have hc3 := hc.2.1
  have hp3 : 2 ^ c 3 ≤ 256 := Nat.pow_le_pow_right (n := 2) (by decide) hc3
  have k := m_isWish_is hc h x
  rw [in_no (by omega) hx] at k
  exact k
theorem m_wyes {w : Wd} {c : Nat → Nat} {s : Nat} (hc : PlOk c) (h : MPl w c) (hx : s < 2 ^ c 3) : Cl 2 jM_isWish [vR (sg 13), vI (nI s)] w (some (vI (bI true)), w) := by
  have hc3 := hc.2.1
  have hp3 : 2 ^ c 3 ≤ 256 := Nat.pow_le_pow_right (n := 2) (by decide) hc3
  have k := m_isWish_is hc h (nI s)
  rw [in_yes (by omega) hx] at k
  exact k
theorem x_wno {w : Wd} {c : Nat → Nat} {x : Int32} (hc : PlOk c) (h : w (cit 0 0) 3 = nI (c 3)) (hx : x < 0 ∨ nI (2 ^ c 3) ≤ x) : Cl 2 jC_isGateSet [vR (cit 0 0), vI x] w (some (vI (bI false)), w) := by
  have hc3 := hc.2.1
  have hp3 : 2 ^ c 3 ≤ 256 := Nat.pow_le_pow_right (n := 2) (by decide) hc3
  obtain ⟨b, h1, h2⟩ := sp_isGateSet h hc3 x
  have hb : b = false := by
    rw [Bool.eq_false_iff]
    intro z
    obtain ⟨j, hj, rfl⟩ := h2.mp z
    rcases hx with q | q
    · exact nI_pos (by omega) q
    · rw [nJ_le (by omega) (by omega)] at q
      omega
  rw [hb] at h1
  exact h1
theorem x_wyes {w : Wd} {c : Nat → Nat} {s : Nat} (hc : PlOk c) (h : w (cit 0 0) 3 = nI (c 3)) (hx : s < 2 ^ c 3) : Cl 2 jC_isGateSet [vR (cit 0 0), vI (nI s)] w (some (vI (bI true)), w) := by
  obtain ⟨b, h1, h2⟩ := sp_isGateSet h hc.2.1 (nI s)
  rw [h2.mpr ⟨s, hx, rfl⟩] at h1
  exact h1
theorem op_sold {x : Int32} : Op jX_sold jM_sold [vI x] := by
  intro w hi
  obtain ⟨hb, c, nr, ti, o, sp, dy, wf, hok, hci, hma, hact⟩ := id hi.2.2.2.2.2
  have hM : Mt w c nr ti o sp dy wf := ⟨hb, hma⟩
  have hc := hok.1
  have hd := hok.2.1
  have hc0 := hc.1
  have hc3 := hc.2.1
  have hc4 := hc.2.2.1
  have hp3 : 2 ^ c 3 ≤ 256 := Nat.pow_le_pow_right (n := 2) (by decide) hc3
  by_cases h0 : 0 < c 0
  · have cx : ∀ {r0 : Rs}, Rn none 19 jX_sold (13, [some (vR (sg 0)), some (vI x)], [], w) r0 → Cl 20 jX_sold [vR (sg 0), vI x] w r0 := by
      intro r0 k
      refine Cl.of rfl rfl rfl (lc := [some (vR (sg 0)), some (vI x)]) rfl ?_
      refine Rn.cv 60 rfl rfl rfl rfl rfl (x_there hc hci) (by decide) ?_
      rw [decide_eq_true h0]
      exact Rn.if1t 60 rfl rfl (by dsimp only [tm_c2P]; decide) k
    have cm : ∀ {w : Wd} {r0 : Rs}, Mt w c nr ti o sp dy wf → Rn none 19 jM_sold (10, [some (vR (sg 13)), some (vI x), none, none, none], [], w) r0 → Cl 20 jM_sold [vR (sg 13), vI x] w r0 := by
      intro w r0 hM k
      refine Cl.of rfl rfl rfl (lc := [some (vR (sg 13)), some (vI x), none, none, none]) rfl ?_
      refine Rn.cv 60 rfl rfl rfl rfl rfl (m_hasCity hc hM.pl) (by decide) ?_
      rw [decide_eq_true h0]
      exact Rn.if1t 60 rfl rfl (by dsimp only [tm_c2P]; decide) k
    rcases pk_or (x := x) (n := 2 ^ c 3) (by omega) with h1 | ⟨s, hs, rfl⟩
    · refine op_same hi (v := -(nI 1000001)) (cx ?_) (cm hM ?_)
      · refine Rn.cv 60 rfl rfl rfl rfl rfl (x_wno hc hci.1.2.1 h1) (by decide) ?_
        refine Rn.if1t 60 rfl rfl (by dsimp only [tm_c2P]; decide) ?_
        exact Rn.ir 60 rfl rfl rfl rfl
      · refine Rn.cv 60 rfl rfl rfl rfl rfl (m_wno hc hM.pl h1) (by decide) ?_
        refine Rn.if1f 60 rfl rfl (by dsimp only [tm_c2P]; decide) ?_
        exact Rn.ir 60 rfl rfl rfl rfl
    obtain ⟨w1, f1, f2⟩ := sp_sellers hc (TwnI.now hci) hd (x := s) (by omega)
    have hM1 := hM.seer (FrR.o4 f2)
    have inner : ∀ p, p < c 4 → ∀ m g a w4, g + m = c 3 → MFr w1 w4 → ∃ w5, MFr w1 w5 ∧ ∀ r, Rn none 19 jM_sold (92, [some (vR (sg 13)), some (vI (nI s)), some (vI (nI (seJ (seT c nr ti wf (o, sp) s) p m g a))), some (vI (nI p)), some (vI (nI (c 3)))], [], w5) r → Rn none 19 jM_sold (37, [some (vR (sg 13)), some (vI (nI s)), some (vI (nI a)), some (vI (nI p)), some (vI (nI g))], [], w4) r := by
      intro p hp m
      induction m with
      | zero =>
        intro g a w4 hg f
        obtain rfl : g = c 3 := by omega
        refine ⟨w4, f, fun r k => ?_⟩
        refine Rn.cv 60 rfl rfl rfl rfl rfl (m_G (hM1.mfr f).pl) (by decide) ?_
        exact Rn.if2t 60 rfl rfl (nI_le (Nat.le_refl _) (by omega)) k
      | succ m ih =>
        intro g a w4 hg f
        have w8 := hd.2.2.2.2 p hp
        obtain ⟨w5, i1, i2, i3⟩ := m_begin hc (hM1.mfr f).1 (hM1.mfr f).2
        have f6 := (f.tr i2).tr (MFr.wis (j := p) (x := nI (sbN (wf p) g (!(wf p).testBit g))))
        have hd6 : DyOk c nr ti o sp (upW wf p (sbN (wf p) g (!(wf p).testBit g))) := hd.up (sbN_lt w8 (by omega))
        obtain ⟨w7, j1, j2, j3⟩ := m_dawns hc (hM1.mfr f6).pl (i3.up (p := p) (v := sbN (wf p) g (!(wf p).testBit g))) hd6
        have o8 := (hd6.da hc).2.2.1
        obtain ⟨w8', l1, l2⟩ := ih (g + 1) (a ||| bif seT c nr ti wf (o, sp) s p g then 2 ^ p else 0) w7 (by omega) (f6.tr j2)
        refine ⟨w8', l1, fun r k => ?_⟩
        have l3 := l2 r k
        rw [nI_succ g, ← nJ_or] at l3
        refine Rn.cv 60 rfl rfl rfl rfl rfl (m_G (hM1.mfr f).pl) (by decide) ?_
        refine Rn.if2f 60 rfl rfl (nI_ge (by omega) (by omega)) ?_
        refine Rn.cv 60 rfl rfl rfl rfl rfl i1 (by decide) ?_
        refine Rn.al 60 rfl rfl rfl rfl (by omega) ?_
        rw [i3.2.2.2.2 p hp]
        refine Rn.as 60 rfl rfl rfl rfl (by omega) ?_
        dsimp only
        rw [nJ_1shl (by omega), nJ_flip g (by omega) _ w8]
        refine Rn.cv 60 rfl rfl rfl rfl rfl j1 (by decide) ?_
        by_cases e : (da c nr ti (upW wf p (sbN (wf p) g (!(wf p).testBit g))) (o, sp)).1 = s
        · have es : seT c nr ti wf (o, sp) s p g = true := decide_eq_true e
          rw [es, cond_true, ← nJ_1shl (by omega)] at l3
          refine Rn.if2f 60 rfl rfl (by dsimp only [tm_c2P]; rw [j3.1, e]; exact fun z => z rfl) ?_
          exact Rn.at 8 rfl l3
        · have es : seT c nr ti wf (o, sp) s p g = false := decide_eq_false e
          rw [es, cond_false] at l3
          refine Rn.if2t 60 rfl rfl (by dsimp only [tm_c2P]; rw [j3.1, nI_eq (by omega) (by omega)]; exact e) ?_
          exact Rn.at 5 rfl l3
    have outer : ∀ m p a w4 x4, p + m = c 4 → MFr w1 w4 → ∃ w5, MFr w1 w5 ∧ Rn none 19 jM_sold (25, [some (vR (sg 13)), some (vI (nI s)), some (vI (nI a)), some (vI (nI p)), x4], [], w4) (some (vI (nI (seI (seT c nr ti wf (o, sp) s) (c 3) m p a))), w5) := by
      intro m
      induction m with
      | zero =>
        intro p a w4 x4 hp f
        obtain rfl : p = c 4 := by omega
        refine ⟨w4, f, ?_⟩
        refine Rn.cv 60 rfl rfl rfl rfl rfl (m_P (hM1.mfr f).pl) (by decide) ?_
        refine Rn.if2t 60 rfl rfl (nI_le (Nat.le_refl _) (by omega)) ?_
        exact Rn.ir 60 rfl rfl rfl rfl
      | succ m ih =>
        intro p a w4 x4 hp f
        obtain ⟨w5, g1, g2⟩ := inner p (by omega) (c 3) 0 a w4 (by omega) f
        obtain ⟨w6, l1, l2⟩ := ih (p + 1) (seJ (seT c nr ti wf (o, sp) s) p (c 3) 0 a) w5 (some (vI (nI (c 3)))) (by omega) g1
        refine ⟨w6, l1, ?_⟩
        refine Rn.cv 60 rfl rfl rfl rfl rfl (m_P (hM1.mfr f).pl) (by decide) ?_
        refine Rn.if2f 60 rfl rfl (nI_ge (by omega) (by omega)) ?_
        refine Rn.at 2 rfl (g2 _ ?_)
        unfold seI
        rw [nI_succ p] at l2
        exact Rn.at 2 rfl l2
    obtain ⟨w5, l1, l2⟩ := outer (c 4) 0 0 w1 none (by omega) MFr.rf
    refine ⟨w1, w5, nI (seI (seT c nr ti wf (o, sp) s) (c 3) (c 4) 0 0), cx ?_, cm hM1 ?_, (hi.seer (FrR.o4 f2)).mfr l1⟩
    · refine Rn.cv 60 rfl rfl rfl rfl rfl (x_wyes hc hci.1.2.1 hs) (by decide) ?_
      refine Rn.if1f 60 rfl rfl (by dsimp only [tm_c2P]; decide) ?_
      refine Rn.cv 60 rfl rfl rfl rfl rfl f1 (by decide) ?_
      exact Rn.ir 60 rfl rfl rfl rfl
    · refine Rn.cv 60 rfl rfl rfl rfl rfl (m_wyes hc hM1.pl hs) (by decide) ?_
      refine Rn.if1t 60 rfl rfl (by dsimp only [tm_c2P]; decide) ?_
      exact Rn.at 4 rfl l2
  · refine op_same hi (v := -(nI 1000002)) ?_ ?_
    · refine Cl.of rfl rfl rfl (lc := [some (vR (sg 0)), some (vI x)]) rfl ?_
      refine Rn.cv 60 rfl rfl rfl rfl rfl (x_there hc hci) (by decide) ?_
      rw [decide_eq_false h0]
      refine Rn.if1f 60 rfl rfl (by dsimp only [tm_c2P]; decide) ?_
      exact Rn.ir 60 rfl rfl rfl rfl
    · refine Cl.of rfl rfl rfl (lc := [some (vR (sg 13)), some (vI x), none, none, none]) rfl ?_
      refine Rn.cv 60 rfl rfl rfl rfl rfl (m_hasCity hc hM.pl) (by decide) ?_
      rw [decide_eq_false h0]
      refine Rn.if1f 60 rfl rfl (by dsimp only [tm_c2P]; decide) ?_
      exact Rn.ir 60 rfl rfl rfl rfl
