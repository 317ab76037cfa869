/-! foretold: the least wish, laws, sets, sold -/
def fiN (t : Nat → Bool) : Nat → Nat → Option Nat
  | 0, _ => none
  | n + 1, s => if t s = true then some s else fiN t n (s + 1)
theorem sp_leastWish {w : Wd} {c : Nat → Nat} {nr ti o sp dy : Nat} {wf : Nat → Nat} (hc : PlOk c) (h : Now w c nr ti o sp dy wf) (ho : DyOk c nr ti o sp wf) {a : Nat} (ha : a < c 4) : ∃ w', Cl 6 jS_leastWish [vR (sg 10), vR (cit 0 0), vI (nI a)] w (some (vI (feI (fiN (fun s => gl c (da c nr ti (upW wf a s) (o, sp)).1 a) (2 ^ c 3) 0))), w') ∧ Fr 4 w w' := by
  have hc4 := hc.2.2.1
  have hc3 := hc.2.1
  have hp3 : 2 ^ c 3 ≤ 256 := Nat.pow_le_pow_right (n := 2) (by decide) hc3
  have hp1 : 1 ≤ 2 ^ c 3 := Nat.one_le_two_pow
  obtain ⟨w1, f1, f2, f3⟩ := sp_become (k := 4) (k' := 0) (by decide) hc h.1 h.2
  have key : ∀ m s w2, s + m = 2 ^ c 3 → Fr 4 w w2 → Tri w2 c → ∃ w', Fr 4 w w' ∧ Rn none 5 jS_leastWish (10, [some (vR (sg 10)), some (vR (cit 0 0)), some (vI (nI a)), some (vI (nI s))], [], w2) (some (vI (feI (fiN (fun s => gl c (da c nr ti (upW wf a s) (o, sp)).1 a) m s))), w') := by
    intro m
    induction m with
    | zero =>
      intro s w2 hs hf ht
      refine ⟨w2, hf, ?_⟩
      have hG : w2 (cit 0 0) 3 = nI (c 3) := by rw [hf.cit (by decide)]; exact h.1.2.1
      refine Rn.cv 60 rfl rfl rfl rfl rfl (sp_allGates hG hc3) (by decide) ?_
      refine Rn.if2t 60 rfl rfl (by dsimp only [tm_c2P]; rw [nJ_lt (by omega) (by omega)]; omega) ?_
      exact Rn.ir 60 rfl rfl rfl rfl
    | succ m ih =>
      intro s w2 hs hf ht
      obtain ⟨nr0, ti0, o0, sp0, dy0, wf0, ht⟩ := ht
      have hG : w2 (cit 0 0) 3 = nI (c 3) := by rw [hf.cit (by decide)]; exact h.1.2.1
      have n2 := h.fr (fun p => hf.cit (k' := 0) (by decide) p)
      obtain ⟨w3, g1, g2, g3⟩ := sp_beginAs (k := 4) (k' := 0) (by decide) hc ht.1 ht.2.2 n2.2
      have g4 : CiIs (wset w3 (cit 4 7) a (nI s)) 4 c nr ti o sp dy (upW wf a s) := by
        obtain ⟨q1, ⟨d1, d2, d3, d4, d5, d6⟩, q3⟩ := g3
        refine ⟨q1.of (by rw [wset_ne (cit_p (by decide))]) (by rw [wset_ne (cit_p (by decide))]) (by rw [wset_ne (cit_p (by decide))]) (fun q q1 q2 => wset_ne (cit_p (by omega))), ⟨by rw [wset_ne (cit_p (by decide))]; exact d1, by rw [wset_ne (cit_p (by decide))]; exact d2, by rw [wset_ne (cit_p (by decide))]; exact d3, by rw [wset_ne (cit_p (by decide))]; exact d4, by rw [wset_ne (cit_p (by decide))]; exact d5, fun q hq => ?_⟩, ?_⟩
        · unfold upW
          by_cases e : q = a
          · subst e
            rw [wset_s, if_pos rfl]
          · rw [wset_k e, if_neg e]
            exact d6 q hq
        · rcases q3 with z | ⟨mo, z1, z2, z3⟩
          · exact Or.inl (by rw [wset_ne (cit_p (by decide))]; exact z)
          · exact Or.inr ⟨mo, z1, by rw [wset_ne (cit_p (by decide))]; exact z2, z3.of (wset_ne (cit_p (by decide)))⟩
      have hd : DyOk c nr ti o sp (upW wf a s) := ⟨ho.1, ho.2.1, ho.2.2.1, ho.2.2.2.1, fun p hp => by
        unfold upW
        split
        · omega
        · exact ho.2.2.2.2 p hp⟩
      obtain ⟨w4, i1, i2, i3⟩ := sp_rise hc g4 hd
      have hd2 := hd.da hc
      have hf4 : Fr 4 w w4 := ((hf.tr g2).tr Fr.set).tr i2
      have go : ∀ {r}, Rn none 5 jS_leastWish (51, [some (vR (sg 10)), some (vR (cit 0 0)), some (vI (nI a)), some (vI (nI s))], [vI (bI (gl c (da c nr ti (upW wf a s) (o, sp)).1 a))], w4) r → Rn none 5 jS_leastWish (10, [some (vR (sg 10)), some (vR (cit 0 0)), some (vI (nI a)), some (vI (nI s))], [], w2) r := by
        intro r k1
        refine Rn.cv 60 rfl rfl rfl rfl rfl (sp_allGates hG hc3) (by decide) ?_
        refine Rn.if2f 60 rfl rfl (by dsimp only [tm_c2P]; rw [nJ_lt (by omega) (by omega)]; omega) ?_
        refine Rn.cv 60 rfl rfl rfl rfl rfl g1 (by decide) ?_
        refine Rn.as 60 rfl rfl rfl rfl (by omega) ?_
        refine Rn.cv 60 rfl rfl rfl rfl rfl i1 (by decide) ?_
        refine Rn.cv 60 rfl rfl rfl rfl rfl (sp_isGlad hc i3.1 i3.2.1.2.2.1 hd2.2.2.1 ha) (by decide) ?_
        exact k1
      cases hgl : gl c (da c nr ti (upW wf a s) (o, sp)).1 a with
      | true =>
        refine ⟨w4, hf4, go ?_⟩
        rw [hgl]
        refine Rn.if1f 60 rfl rfl bI_t0 ?_
        unfold fiN
        rw [if_pos hgl]
        exact Rn.ir 60 rfl rfl rfl rfl
      | false =>
        obtain ⟨w', j1, j2⟩ := ih (s + 1) w4 (by omega) hf4 ⟨_, _, _, _, _, _, i3⟩
        refine ⟨w', j1, go ?_⟩
        rw [hgl]
        refine Rn.if1t 60 rfl rfl bI_f0 ?_
        unfold fiN
        rw [if_neg (by rw [hgl]; exact fun z => by cases z)]
        rw [nI_succ s] at j2
        exact Rn.at 2 rfl j2
  obtain ⟨w', j1, j2⟩ := key (2 ^ c 3) 0 w1 (by omega) f2 ⟨_, _, _, _, _, _, f3⟩
  refine ⟨w', ?_, j1⟩
  refine Cl.of rfl rfl rfl (lc := [some (vR (sg 10)), some (vR (cit 0 0)), some (vI (nI a)), none]) rfl ?_
  refine Rn.cv 60 rfl rfl rfl rfl rfl f1 (by decide) ?_
  exact Rn.at 2 rfl j2
theorem bsN_lt {f : Nat → Bool} {N : Nat} : ∀ n p s, p + n = N → s < 2 ^ N → bsN f n p s < 2 ^ N
  | 0, _, _, _, h => h
  | n + 1, p, s, hp, h => by
    unfold bsN
    refine bsN_lt n (p + 1) _ (by omega) (Nat.or_lt_two_pow h ?_)
    cases f p
    · exact Nat.two_pow_pos N
    · exact Nat.pow_lt_pow_right (by decide) (by omega)
theorem bs_lt {f : Nat → Bool} {N : Nat} (h : N ≤ 5) : bs f N < 32 := Nat.lt_of_lt_of_le (bsN_lt N 0 0 (by omega) (Nat.two_pow_pos N)) (Nat.pow_le_pow_right (n := 2) (by decide) h)
/-- how many are glad by a law -/
def laG (c : Nat → Nat) (wf : Nat → Nat) (q : Nat × Nat) (n i : Nat) : Nat := cnt (bs (gl c (daI c (i / 3) (i % 3) wf n q).1) (c 4))
theorem sp_gladBy {w : Wd} {c : Nat → Nat} {nr ti o sp dy : Nat} {wf : Nat → Nat} (hc : PlOk c) (h : Now w c nr ti o sp dy wf) (ht : Tri w c) (ho : DyOk c nr ti o sp wf) {x y n : Nat} (hx : x ≤ 3) (hy : y ≤ 2) (hn : n ≤ 100) : ∃ w', Cl 6 jS_gladBy [vR (sg 10), vR (cit 0 0), vI (nI x), vI (nI y), vI (nI n)] w (some (vI (nI (laG c wf (o, sp) n (3 * x + y)))), w') ∧ Fr 4 w w' ∧ Tri w' c := by
  have hc4 := hc.2.2.1
  obtain ⟨nr0, ti0, o0, sp0, dy0, wf0, ht⟩ := ht
  obtain ⟨w1, f1, f2, f3⟩ := sp_beginAs (k := 4) (k' := 0) (by decide) hc ht.1 ht.2.2 h.2
  have f4 : CiIs (wset (wset w1 (cit 4 0) 1 (nI x)) (cit 4 0) 2 (nI y)) 4 c x y o sp dy wf := by
    obtain ⟨q1, ⟨d1, d2, d3, d4, d5, d6⟩, q3⟩ := f3
    refine ⟨q1.of ?_ ?_ ?_ (fun q q1 q2 => ?_), ⟨?_, ?_, ?_, ?_, ?_, fun q hq => ?_⟩, ?_⟩
    · rw [wset_k (by decide), wset_k (by decide)]
    · rw [wset_k (by decide), wset_k (by decide)]
    · rw [wset_k (by decide), wset_k (by decide)]
    · rw [wset_ne (cit_p (by omega)), wset_ne (cit_p (by omega))]
    · rw [wset_k (by decide), wset_s]
    · rw [wset_s]
    · rw [wset_k (by decide), wset_k (by decide)]; exact d3
    · rw [wset_k (by decide), wset_k (by decide)]; exact d4
    · rw [wset_k (by decide), wset_k (by decide)]; exact d5
    · rw [wset_ne (cit_p (by decide)), wset_ne (cit_p (by decide))]; exact d6 q hq
    · rcases q3 with z | ⟨mo, z1, z2, z3⟩
      · exact Or.inl (by rw [wset_k (by decide), wset_k (by decide)]; exact z)
      · exact Or.inr ⟨mo, z1, by rw [wset_k (by decide), wset_k (by decide)]; exact z2, z3.of (by rw [wset_ne (cit_p (by decide)), wset_ne (cit_p (by decide))])⟩
  have hd : DyOk c x y o sp wf := ⟨hx, hy, ho.2.2⟩
  obtain ⟨w2, g1, g2, g3, g4⟩ := sp_rises hc f4 hd (J := jS_gladBy) (d := 5) (pc := 27) (r0 := sg 0) (fun i => [some (vR (sg 10)), some (vR (cit 0 0)), some (vI (nI x)), some (vI (nI y)), some (vI (nI n)), some (vI (nI i))]) n n 0 (by omega) (by omega) (fun i w1 w2 r hi hc k1 => by
    refine Rn.if2f 60 rfl rfl (nI_ge hi (by omega)) ?_
    refine Rn.cv 60 rfl rfl rfl rfl rfl hc (by decide) ?_
    rw [nI_succ i] at k1
    exact Rn.at 2 rfl k1)
  refine ⟨w2, ?_, ((f2.tr Fr.set).tr Fr.set).tr g1, ⟨_, _, _, _, _, _, g2⟩⟩
  refine Cl.of rfl rfl rfl (lc := [some (vR (sg 10)), some (vR (cit 0 0)), some (vI (nI x)), some (vI (nI y)), some (vI (nI n)), none]) rfl ?_
  refine Rn.cv 60 rfl rfl rfl rfl rfl f1 (by decide) ?_
  refine Rn.at 10 rfl (g4 _ ?_)
  refine Rn.if2t 60 rfl rfl (nI_le (Nat.le_refl _) (by omega)) ?_
  refine Rn.cv 60 rfl rfl rfl rfl rfl (sp_glad hc g2.1 g2.2.1.2.2.1 g3.2.2.1) (by decide) ?_
  refine Rn.cs 60 rfl rfl rfl rfl (sp_bitCount (Nat.lt_trans (bs_lt hc4) (by decide))) (by decide) ?_
  refine Rn.ir 60 rfl rfl rfl ?_
  unfold laG
  rw [show (3 * x + y) / 3 = x by omega, show (3 * x + y) % 3 = y by omega]
def laQ (G : Nat → Nat) (i : Nat) (a : Option (Nat × Nat)) : Option (Nat × Nat) := match a with
  | none => some (i, G i)
  | some (l, m) => if m < G i then some (i, G i) else some (l, m)
def laS (G : Nat → Nat) : Nat → Nat → Option (Nat × Nat) → Option (Nat × Nat)
  | 0, _, a => a
  | n + 1, i, a => laS G n (i + 1) (laQ G i a)
def FrS (w w' : Wd) : Prop := ∀ t, (∀ p, t ≠ cit 4 p) → t ≠ sg 10 → w' t = w t
theorem FrS.tr {w w1 w2 : Wd} (h1 : FrS w w1) (h2 : FrS w1 w2) : FrS w w2 := fun t a b => (h2 t a b).trans (h1 t a b)
theorem FrS.of {w w' : Wd} (h : Fr 4 w w') : FrS w w' := fun t a _ => h t a
theorem FrS.set {w : Wd} {j : Nat} {x : Int32} : FrS w (wset w (sg 10) j x) := fun t _ b => wset_ne b
theorem sg_cit {j : Nat} {k : Fin 6} {p : Nat} : sg j ≠ cit k p := fun z => by cases z
theorem cit_sg {j : Nat} {k : Fin 6} {p : Nat} : cit k p ≠ sg j := fun z => by cases z
theorem FrS.town {w w' : Wd} (h : FrS w w') (p : Nat) : w' (cit 0 p) = w (cit 0 p) := h _ (fun q => cit_k (by decide)) cit_sg
theorem Tri.set {w : Wd} {c : Nat → Nat} (h : Tri w c) {j : Nat} {x : Int32} : Tri (wset w (sg 10) j x) c := by
  obtain ⟨a1, a2, a3, a4, a5, a6, h⟩ := h
  exact ⟨a1, a2, a3, a4, a5, a6, h.fr (fun p => wset_ne cit_sg)⟩
def LaIs (w : Wd) (a : Option (Nat × Nat)) : Prop := match a with
  | none => w (sg 10) 2 = -(nI 1)
  | some (l, m) => w (sg 10) 0 = nI (l / 3) ∧ w (sg 10) 1 = nI (l % 3) ∧ w (sg 10) 2 = nI m ∧ m ≤ 8
theorem m1_lt (n : Nat) (h : n ≤ 8) : -(nI 1) < nI n := by
  rw [Int32.lt_iff_toInt_lt, nI_toInt (by omega), show (-(nI 1)).toInt = -1 by decide]
  omega
theorem sp_findLaw {w : Wd} {c : Nat → Nat} {nr ti o sp dy : Nat} {wf : Nat → Nat} (hc : PlOk c) (h : Now w c nr ti o sp dy wf) (ho : DyOk c nr ti o sp wf) {n : Nat} (hn : n ≤ 100) : ∃ w', Cl 7 jS_findLaw [vR (sg 10), vR (cit 0 0), vI (nI n)] w (none, w') ∧ FrS w w' ∧ LaIs w' (laS (laG c wf (o, sp) n) 12 0 none) := by
  obtain ⟨w1, f1, f2, f3⟩ := sp_become (k := 4) (k' := 0) (by decide) hc h.1 h.2
  have hG : ∀ i, laG c wf (o, sp) n i ≤ 8 := fun i => cnt_le _
  -- one law
  have one : ∀ x y w2 a x5, x ≤ 3 → y ≤ 2 → FrS w w2 → Tri w2 c → LaIs w2 a → ∃ w3 x5', FrS w w3 ∧ Tri w3 c ∧ LaIs w3 (laQ (laG c wf (o, sp) n) (3 * x + y) a) ∧ ∀ r, Rn none 6 jS_findLaw (66, [some (vR (sg 10)), some (vR (cit 0 0)), some (vI (nI n)), some (vI (nI x)), some (vI (nI y)), x5'], [], w3) r → Rn none 6 jS_findLaw (29, [some (vR (sg 10)), some (vR (cit 0 0)), some (vI (nI n)), some (vI (nI x)), some (vI (nI y)), x5], [], w2) r := by
    intro x y w2 a x5 hx hy hf ht hl
    obtain ⟨w3, g1, g2, g3⟩ := sp_gladBy (dy := dy) hc (h.fr (fun p => hf.town p)) ht ho hx hy hn
    have hw3 : w3 (sg 10) = w2 (sg 10) := g2 _ (fun p => sg_cit)
    have hGi := hG (3 * x + y)
    by_cases hgt : w3 (sg 10) 2 < nI (laG c wf (o, sp) n (3 * x + y))
    · refine ⟨wset (wset (wset w3 (sg 10) 0 (nI x)) (sg 10) 1 (nI y)) (sg 10) 2 (nI (laG c wf (o, sp) n (3 * x + y))), some (vI (nI (laG c wf (o, sp) n (3 * x + y)))), (((hf.tr (FrS.of g2)).tr FrS.set).tr FrS.set).tr FrS.set, g3.set.set.set, ?_, fun r k1 => ?_⟩
      · have e : laQ (laG c wf (o, sp) n) (3 * x + y) a = some (3 * x + y, laG c wf (o, sp) n (3 * x + y)) := by
          cases a with
          | none => rfl
          | some q =>
            obtain ⟨q1, q2⟩ := q
            obtain ⟨b1, b2, b3, b4⟩ := hl
            rw [hw3, b3, nJ_lt (by omega) (by omega)] at hgt
            show (if q2 < _ then _ else _) = _
            rw [if_pos hgt]
        rw [e]
        refine ⟨?_, ?_, ?_, hGi⟩
        · rw [wset_k (by decide), wset_k (by decide), wset_s, show (3 * x + y) / 3 = x by omega]
        · rw [wset_k (by decide), wset_s, show (3 * x + y) % 3 = y by omega]
        · rw [wset_s]
      · refine Rn.cv 60 rfl rfl rfl rfl rfl g1 (by decide) ?_
        refine Rn.if2f 60 rfl rfl (by dsimp only [tm_c2P]; exact Int32.not_le.mpr hgt) ?_
        exact Rn.at 9 rfl k1
    · refine ⟨w3, some (vI (nI (laG c wf (o, sp) n (3 * x + y)))), hf.tr (FrS.of g2), g3, ?_, fun r k1 => ?_⟩
      · cases a with
        | none =>
          have hl : w2 (sg 10) 2 = -(nI 1) := hl
          rw [hw3, hl] at hgt
          exact absurd (m1_lt _ hGi) hgt
        | some q =>
          obtain ⟨q1, q2⟩ := q
          obtain ⟨b1, b2, b3, b4⟩ := hl
          rw [hw3, b3, nJ_lt (by omega) (by omega)] at hgt
          have e : laQ (laG c wf (o, sp) n) (3 * x + y) (some (q1, q2)) = some (q1, q2) := by
            show (if q2 < _ then _ else _) = _
            rw [if_neg hgt]
          rw [e]
          exact ⟨by rw [hw3]; exact b1, by rw [hw3]; exact b2, by rw [hw3]; exact b3, b4⟩
      · refine Rn.cv 60 rfl rfl rfl rfl rfl g1 (by decide) ?_
        refine Rn.if2t 60 rfl rfl (by dsimp only [tm_c2P]; exact Int32.not_lt.mp hgt) ?_
        exact k1
  have row : ∀ m x y w2 a x5, x ≤ 3 → y + m = 3 → FrS w w2 → Tri w2 c → LaIs w2 a → ∃ w3 x5', FrS w w3 ∧ Tri w3 c ∧ LaIs w3 (laS (laG c wf (o, sp) n) m (3 * x + y) a) ∧ ∀ r, Rn none 6 jS_findLaw (72, [some (vR (sg 10)), some (vR (cit 0 0)), some (vI (nI n)), some (vI (nI x)), some (vI (nI 3)), x5'], [], w3) r → Rn none 6 jS_findLaw (23, [some (vR (sg 10)), some (vR (cit 0 0)), some (vI (nI n)), some (vI (nI x)), some (vI (nI y)), x5], [], w2) r := by
    intro m
    induction m with
    | zero =>
      intro x y w2 a x5 hx hy hf ht hl
      obtain rfl : y = 3 := by omega
      refine ⟨w2, x5, hf, ht, hl, fun r k1 => ?_⟩
      exact Rn.if2t 60 rfl rfl (nI_lt (by decide) (by decide)) k1
    | succ m ih =>
      intro x y w2 a x5 hx hy hf ht hl
      obtain ⟨w3, x5', i1, i2, i3, i4⟩ := one x y w2 a x5 hx (by omega) hf ht hl
      obtain ⟨w4, x5'', j1, j2, j3, j4⟩ := ih x (y + 1) w3 _ x5' hx (by omega) i1 i2 i3
      refine ⟨w4, x5'', j1, j2, j3, fun r k1 => ?_⟩
      refine Rn.if2f 60 rfl rfl (nI_nlt (by omega) (by omega)) ?_
      refine i4 r ?_
      have k2 := j4 r k1
      rw [nI_succ y] at k2
      exact Rn.at 2 rfl k2
  have rows : ∀ m x w2 a x4 x5, x + m = 4 → FrS w w2 → Tri w2 c → LaIs w2 a → ∃ w3, FrS w w3 ∧ LaIs w3 (laS (laG c wf (o, sp) n) (3 * m) (3 * x) a) ∧ Rn none 6 jS_findLaw (15, [some (vR (sg 10)), some (vR (cit 0 0)), some (vI (nI n)), some (vI (nI x)), x4, x5], [], w2) (none, w3) := by
    intro m
    induction m with
    | zero =>
      intro x w2 a x4 x5 hx hf ht hl
      obtain rfl : x = 4 := by omega
      refine ⟨w2, hf, hl, ?_⟩
      refine Rn.if2t 60 rfl rfl (nI_lt (by decide) (by decide)) ?_
      exact Rn.vr 60 rfl rfl rfl rfl
    | succ m ih =>
      intro x w2 a x4 x5 hx hf ht hl
      obtain ⟨w3, x5', i1, i2, i3, i4⟩ := row 3 x 0 w2 a x5 (by omega) (by omega) hf ht hl
      obtain ⟨w4, j1, j2, j3⟩ := ih (x + 1) w3 _ (some (vI (nI 3))) x5' (by omega) i1 i2 i3
      refine ⟨w4, j1, ?_, ?_⟩
      · have e : laS (laG c wf (o, sp) n) (3 * (m + 1)) (3 * x) a = laS (laG c wf (o, sp) n) (3 * m) (3 * (x + 1)) (laS (laG c wf (o, sp) n) 3 (3 * x + 0) a) := by
          rw [show 3 * (m + 1) = 3 * m + 1 + 1 + 1 by omega]
          rfl
        rw [e]
        exact j2
      · refine Rn.if2f 60 rfl rfl (nI_nlt (by omega) (by omega)) ?_
        refine Rn.at 2 rfl (i4 _ ?_)
        rw [nI_succ x] at j3
        exact Rn.at 2 rfl j3
  obtain ⟨w3, j1, j2, j3⟩ := rows 4 0 (wset w1 (sg 10) 2 (-(nI 1))) none none none (by omega) ((FrS.of f2).tr FrS.set) (Tri.set ⟨_, _, _, _, _, _, f3⟩) wset_s
  refine ⟨w3, ?_, j1, j2⟩
  refine Cl.of rfl rfl rfl (lc := [some (vR (sg 10)), some (vR (cit 0 0)), some (vI (nI n)), none, none, none]) rfl ?_
  refine Rn.cv 60 rfl rfl rfl rfl rfl f1 (by decide) ?_
  exact Rn.at 5 rfl j3
