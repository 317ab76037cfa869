/-! foretold: sets that fit, sold, the round -/
/-- of sets: how many, open in all, shut in all -/
def fsQ (t : Nat → Bool) (s : Nat) (q : Nat × Nat × Nat) : Nat × Nat × Nat := if t s = true then (q.1 + 1, q.2.1 &&& s, q.2.2 &&& (s ^^^ 4294967295)) else q
def fsN (t : Nat → Bool) : Nat → Nat → Nat × Nat × Nat → Nat × Nat × Nat
  | 0, _, q => q
  | n + 1, s, q => fsN t n (s + 1) (fsQ t s q)
theorem m1_nI : -(nI 1) = nI 4294967295 := by decide
def fsT (c : Nat → Nat) (tg tn s : Nat) : Bool := decide (bs (gl c s) (c 4) &&& tg = tg) && decide (bs (gl c s) (c 4) &&& tn = 0)
def FsIs (w : Wd) (q : Nat × Nat × Nat) : Prop := w (sg 10) 3 = nI q.1 ∧ w (sg 10) 4 = nI q.2.1 ∧ w (sg 10) 5 = nI q.2.2
theorem fs_step {V : Wd} {x1 x2 x3 x4 x5 : Option AV} {s : Nat} {a b d : Int32} {dp : Nat} {r : Rs} (h1 : V (sg 10) 3 = a) (h2 : V (sg 10) 4 = b) (h3 : V (sg 10) 5 = d) (k1 : Rn none dp jS_findSets (108, [some (vR (sg 10)), x1, x2, x3, some (vI (nI s)), x5], [], wset (wset (wset V (sg 10) 3 (a + nI 1)) (sg 10) 4 (b &&& nI s)) (sg 10) 5 (d &&& (nI s ^^^ -(nI 1)))) r) : Rn none dp jS_findSets (74, [some (vR (sg 10)), x1, x2, x3, some (vI (nI s)), x5], [], V) r := by
  subst h1
  subst h2
  subst h3
  have e2 : wset V (sg 10) 3 (V (sg 10) 3 + nI 1) (sg 10) 4 = V (sg 10) 4 := wset_k (by decide)
  have e3 : wset (wset V (sg 10) 3 (V (sg 10) 3 + nI 1)) (sg 10) 4 (V (sg 10) 4 &&& nI s) (sg 10) 5 = V (sg 10) 5 := by rw [wset_k (by decide), wset_k (by decide)]
  rw [← e3, ← e2] at k1
  exact Rn.at 20 rfl k1
theorem sp_findSets {w : Wd} {c : Nat → Nat} {nr ti o sp dy : Nat} {wf : Nat → Nat} (hc : PlOk c) (h : Now w c nr ti o sp dy wf) {tg tn : Nat} (h1 : tg < 32) (h2 : tn < 32) : ∃ w', Cl 5 jS_findSets [vR (sg 10), vR (cit 0 0), vI (nI tg), vI (nI tn)] w (none, w') ∧ FrS w w' ∧ FsIs w' (fsN (fsT c tg tn) (2 ^ c 3) 0 (0, 2 ^ c 3 - 1, 2 ^ c 3 - 1)) := by
  have hc4 := hc.2.2.1
  have hc3 := hc.2.1
  have hp3 : 2 ^ c 3 ≤ 256 := Nat.pow_le_pow_right (n := 2) (by decide) hc3
  have hp1 : 1 ≤ 2 ^ c 3 := Nat.one_le_two_pow
  obtain ⟨w1, f1, f2, f3⟩ := sp_become (k := 4) (k' := 0) (by decide) hc h.1 h.2
  have hGt : ∀ {w2 : Wd}, FrS w w2 → w2 (cit 0 0) 3 = nI (c 3) := fun hf => by rw [hf.town]; exact h.1.2.1
  have key : ∀ m s w2 q x5, s + m = 2 ^ c 3 → FrS w w2 → PlIs w2 4 c → FsIs w2 q → ∃ w3, FrS w w3 ∧ FsIs w3 (fsN (fsT c tg tn) m s q) ∧ Rn none 4 jS_findSets (32, [some (vR (sg 10)), some (vR (cit 0 0)), some (vI (nI tg)), some (vI (nI tn)), some (vI (nI s)), x5], [], w2) (none, w3) := by
    intro m
    induction m with
    | zero =>
      intro s w2 q x5 hs hf hp hq
      refine ⟨w2, hf, hq, ?_⟩
      refine Rn.cv 60 rfl rfl rfl rfl rfl (sp_allGates (hGt hf) hc3) (by decide) ?_
      refine Rn.if2t 60 rfl rfl (by dsimp only [tm_c2P]; rw [nJ_lt (by omega) (by omega)]; omega) ?_
      exact Rn.vr 60 rfl rfl rfl rfl
    | succ m ih =>
      intro s w2 q x5 hs hf hp hq
      have hp2 : PlIs (wset w2 (cit 4 0) 12 (nI s)) 4 c := hp.of (wset_k (by decide)) (wset_k (by decide)) (wset_k (by decide)) (fun p p1 p2 => wset_ne (cit_p (by omega)))
      have hf2 : FrS w (wset w2 (cit 4 0) 12 (nI s)) := fun t a b => (wset_ne (a 0)).trans (hf t a b)
      have hq2 : FsIs (wset w2 (cit 4 0) 12 (nI s)) q := by
        unfold FsIs
        rw [wset_ne sg_cit]
        exact hq
      have hgl := bs_lt (f := gl c s) hc4
      have go : ∀ {r}, Rn none 4 jS_findSets (59, [some (vR (sg 10)), some (vR (cit 0 0)), some (vI (nI tg)), some (vI (nI tn)), some (vI (nI s)), some (vI (nI (bs (gl c s) (c 4))))], [], wset w2 (cit 4 0) 12 (nI s)) r → Rn none 4 jS_findSets (32, [some (vR (sg 10)), some (vR (cit 0 0)), some (vI (nI tg)), some (vI (nI tn)), some (vI (nI s)), x5], [], w2) r := by
        intro r k1
        refine Rn.cv 60 rfl rfl rfl rfl rfl (sp_allGates (hGt hf) hc3) (by decide) ?_
        refine Rn.if2f 60 rfl rfl (by dsimp only [tm_c2P]; rw [nJ_lt (by omega) (by omega)]; omega) ?_
        refine Rn.cv 60 rfl rfl rfl rfl rfl (sp_glad hc hp2 wset_s (by omega)) (by decide) ?_
        exact Rn.at 1 rfl k1
      have go2 : ∀ w4 q', FrS w w4 → PlIs w4 4 c → FsIs w4 q' → fsQ (fsT c tg tn) s q = q' → ∃ w3, FrS w w3 ∧ FsIs w3 (fsN (fsT c tg tn) (m + 1) s q) ∧ Rn none 4 jS_findSets (108, [some (vR (sg 10)), some (vR (cit 0 0)), some (vI (nI tg)), some (vI (nI tn)), some (vI (nI s)), some (vI (nI (bs (gl c s) (c 4))))], [], w4) (none, w3) := by
        intro w4 q' a1 a2 a3 a4
        obtain ⟨w3, b1, b2, b3⟩ := ih (s + 1) w4 q' (some (vI (nI (bs (gl c s) (c 4))))) (by omega) a1 a2 a3
        refine ⟨w3, b1, ?_, ?_⟩
        · unfold fsN
          rw [a4]
          exact b2
        · rw [nI_succ s] at b3
          exact Rn.at 2 rfl b3
      by_cases e1 : bs (gl c s) (c 4) &&& tg = tg
      · by_cases e2 : bs (gl c s) (c 4) &&& tn = 0
        · obtain ⟨q1, q2, q3⟩ := hq2
          obtain ⟨w3, b1, b2, b3⟩ := go2 (wset (wset (wset (wset w2 (cit 4 0) 12 (nI s)) (sg 10) 3 (nI q.1 + nI 1)) (sg 10) 4 (nI q.2.1 &&& nI s)) (sg 10) 5 (nI q.2.2 &&& (nI s ^^^ -(nI 1)))) (q.1 + 1, q.2.1 &&& s, q.2.2 &&& (s ^^^ 4294967295)) (((hf2.tr FrS.set).tr FrS.set).tr FrS.set) (hp2.of (by rw [wset_ne cit_sg, wset_ne cit_sg, wset_ne cit_sg]) (by rw [wset_ne cit_sg, wset_ne cit_sg, wset_ne cit_sg]) (by rw [wset_ne cit_sg, wset_ne cit_sg, wset_ne cit_sg]) (fun p _ _ => by rw [wset_ne cit_sg, wset_ne cit_sg, wset_ne cit_sg])) ⟨by rw [wset_k (by decide), wset_k (by decide), wset_s, nI_add], by rw [wset_k (by decide), wset_s, nJ_and], by rw [wset_s, m1_nI, nJ_xor, nJ_and]⟩ (by unfold fsQ fsT; rw [if_pos (by rw [decide_eq_true e1, decide_eq_true e2]; rfl)])
          refine ⟨w3, b1, b2, go ?_⟩
          refine Rn.if2f 60 rfl rfl (by dsimp only [tm_c2P]; rw [nJ_and, e1]; exact fun z => z rfl) ?_
          refine Rn.if1f 60 rfl rfl (by dsimp only [tm_c2P]; rw [nJ_and, e2]; exact fun z => z rfl) ?_
          exact fs_step (x4 := none) q1 q2 q3 b3
        · obtain ⟨w3, b1, b2, b3⟩ := go2 (wset w2 (cit 4 0) 12 (nI s)) q hf2 hp2 hq2 (by unfold fsQ fsT; rw [if_neg (by rw [decide_eq_false e2, Bool.and_false]; exact fun z => by cases z)])
          refine ⟨w3, b1, b2, go ?_⟩
          refine Rn.if2f 60 rfl rfl (by dsimp only [tm_c2P]; rw [nJ_and, e1]; exact fun z => z rfl) ?_
          refine Rn.if1t 60 rfl rfl (by dsimp only [tm_c2P]; rw [nJ_and, nJ_eq0 (Nat.lt_of_lt_of_le (nJ_and_lt h2) (by decide))]; exact e2) ?_
          exact b3
      · obtain ⟨w3, b1, b2, b3⟩ := go2 (wset w2 (cit 4 0) 12 (nI s)) q hf2 hp2 hq2 (by unfold fsQ fsT; rw [if_neg (by rw [decide_eq_false e1, Bool.false_and]; exact fun z => by cases z)])
        refine ⟨w3, b1, b2, go ?_⟩
        refine Rn.if2t 60 rfl rfl (by dsimp only [tm_c2P]; rw [nJ_and, nI_eq (by have := nJ_and_lt (a := bs (gl c s) (c 4)) h1; omega) (by omega)]; exact e1) ?_
        exact b3
  have a1 : FrS w (wset (wset (wset w1 (sg 10) 3 (nI 0)) (sg 10) 4 (nI (2 ^ c 3 - 1))) (sg 10) 5 (nI (2 ^ c 3 - 1))) := (((FrS.of f2).tr FrS.set).tr FrS.set).tr FrS.set
  obtain ⟨w3, b1, b2, b3⟩ := key (2 ^ c 3) 0 _ (0, 2 ^ c 3 - 1, 2 ^ c 3 - 1) none (by omega) a1 (f3.1.of (by rw [wset_ne cit_sg, wset_ne cit_sg, wset_ne cit_sg]) (by rw [wset_ne cit_sg, wset_ne cit_sg, wset_ne cit_sg]) (by rw [wset_ne cit_sg, wset_ne cit_sg, wset_ne cit_sg]) (fun p _ _ => by rw [wset_ne cit_sg, wset_ne cit_sg, wset_ne cit_sg])) ⟨by rw [wset_k (by decide), wset_k (by decide), wset_s], by rw [wset_k (by decide), wset_s], wset_s⟩
  refine ⟨w3, ?_, b1, b2⟩
  refine Cl.of rfl rfl rfl (lc := [some (vR (sg 10)), some (vR (cit 0 0)), some (vI (nI tg)), some (vI (nI tn)), none, none]) rfl ?_
  refine Rn.cv 60 rfl rfl rfl rfl rfl f1 (by decide) ?_
  refine Rn.cv 60 rfl rfl rfl rfl rfl (sp_allGates (hGt ((FrS.of f2).tr FrS.set)) hc3) (by decide) ?_
  refine Rn.cv 60 rfl rfl rfl rfl rfl (sp_allGates (hGt (((FrS.of f2).tr FrS.set).tr FrS.set)) hc3) (by decide) ?_
  exact Rn.at 3 rfl b3
def seJ (t : Nat → Nat → Bool) (p : Nat) : Nat → Nat → Nat → Nat
  | 0, _, s => s
  | n + 1, g, s => seJ t p n (g + 1) (s ||| bif t p g then 2 ^ p else 0)
def seI (t : Nat → Nat → Bool) (G : Nat) : Nat → Nat → Nat → Nat
  | 0, _, s => s
  | n + 1, p, s => seI t G n (p + 1) (seJ t p G 0 s)
def seT (c : Nat → Nat) (nr ti : Nat) (wf : Nat → Nat) (q : Nat × Nat) (x p g : Nat) : Bool := decide ((da c nr ti (upW wf p (sbN (wf p) g (!(wf p).testBit g))) q).1 = x)
theorem bI_not (b : Bool) : nI 1 - bI b = bI (!b) := by cases b <;> decide
theorem sp_sellers {w : Wd} {c : Nat → Nat} {nr ti o sp dy : Nat} {wf : Nat → Nat} (hc : PlOk c) (h : Now w c nr ti o sp dy wf) (ho : DyOk c nr ti o sp wf) {x : Nat} (hx : x < 256) : ∃ w', Cl 6 jS_sellers [vR (sg 10), vR (cit 0 0), vI (nI x)] w (some (vI (nI (seI (seT c nr ti wf (o, sp) x) (c 3) (c 4) 0 0))), w') ∧ Fr 4 w w' := by
  have hc4 := hc.2.2.1
  have hc3 := hc.2.1
  obtain ⟨w1, f1, f2, f3⟩ := sp_become (k := 4) (k' := 0) (by decide) hc h.1 h.2
  have inner : ∀ p, p < c 4 → ∀ m g s w2, g + m = c 3 → Fr 4 w w2 → Tri w2 c → ∃ w3, Fr 4 w w3 ∧ Tri w3 c ∧ ∀ r, Rn none 5 jS_sellers (98, [some (vR (sg 10)), some (vR (cit 0 0)), some (vI (nI x)), some (vI (nI (seJ (seT c nr ti wf (o, sp) x) p m g s))), some (vI (nI p)), some (vI (nI (c 3)))], [], w3) r → Rn none 5 jS_sellers (25, [some (vR (sg 10)), some (vR (cit 0 0)), some (vI (nI x)), some (vI (nI s)), some (vI (nI p)), some (vI (nI g))], [], w2) r := by
    intro p hp m
    induction m with
    | zero =>
      intro g s w2 hg hf ht
      obtain rfl : g = c 3 := by omega
      refine ⟨w2, hf, ht, fun r k1 => ?_⟩
      have hG : w2 (cit 0 0) 3 = nI (c 3) := by rw [hf.cit (by decide)]; exact h.1.2.1
      exact Rn.if2t 60 rfl rfl (by dsimp only [tm_c2P]; rw [hG]; exact nI_le (Nat.le_refl _) (by omega)) k1
    | succ m ih =>
      intro g s w2 hg hf ht
      obtain ⟨nr0, ti0, o0, sp0, dy0, wf0, ht⟩ := ht
      have hgl : g < c 3 := by omega
      have hG : w2 (cit 0 0) 3 = nI (c 3) := by rw [hf.cit (by decide)]; exact h.1.2.1
      have n2 := h.fr (fun p => hf.cit (k' := 0) (by decide) p)
      obtain ⟨w3, g1, g2, g3⟩ := sp_beginAs (k := 4) (k' := 0) (by decide) hc ht.1 ht.2.2 n2.2
      have n3 := n2.fr (fun p => g2.cit (k' := 0) (by decide) p)
      obtain ⟨w4, i1, i2, i3⟩ := sp_wishSo (!(wf p).testBit g) hc g3 (p := p) (g := g) (ho.2.2.2.2 p hp) hp (by omega)
      have hd : DyOk c nr ti o sp (upW wf p (sbN (wf p) g (!(wf p).testBit g))) := ⟨ho.1, ho.2.1, ho.2.2.1, ho.2.2.2.1, fun q hq => by
        unfold upW
        split
        · exact sbN_lt (ho.2.2.2.2 p hp) (by omega)
        · exact ho.2.2.2.2 q hq⟩
      obtain ⟨w5, j1, j2, j3⟩ := sp_rise hc i3 hd
      have hd2 := hd.da hc
      have hd3 := hd2.2.2.1
      obtain ⟨w6, l1, l2, l3⟩ := ih (g + 1) (s ||| bif seT c nr ti wf (o, sp) x p g then 2 ^ p else 0) w5 (by omega) (((hf.tr g2).tr i2).tr j2) ⟨_, _, _, _, _, _, j3⟩
      refine ⟨w6, l1, l2, fun r k1 => ?_⟩
      have k2 := l3 r k1
      rw [nI_succ g, ← nJ_or] at k2
      refine Rn.if2f 60 rfl rfl (by dsimp only [tm_c2P]; rw [hG]; exact nI_ge hgl (by omega)) ?_
      refine Rn.cv 60 rfl rfl rfl rfl rfl g1 (by decide) ?_
      refine Rn.cv 60 rfl rfl rfl rfl rfl (sp_wishFor (k := 0) (n3.2.2.2.2.2.2 p hp) (ho.2.2.2.2 p hp) (by omega) (by omega)) (by decide) ?_
      refine Rn.at 1 (x := (60, [some (vR (sg 10)), some (vR (cit 0 0)), some (vI (nI x)), some (vI (nI s)), some (vI (nI p)), some (vI (nI g))], [vI (nI 1 - bI ((wf p).testBit g)), vI (nI g), vI (nI p), vR (cit 4 0)], w3)) rfl ?_
      rw [bI_not]
      refine Rn.cv 60 rfl rfl rfl rfl rfl i1 (by decide) ?_
      refine Rn.cv 60 rfl rfl rfl rfl rfl j1 (by decide) ?_
      by_cases e : (da c nr ti (upW wf p (sbN (wf p) g (!(wf p).testBit g))) (o, sp)).1 = x
      · have es : seT c nr ti wf (o, sp) x p g = true := decide_eq_true e
        rw [es, show (bif true then 2 ^ p else 0) = 2 ^ p from rfl, ← nJ_1shl (by omega)] at k2
        refine Rn.if2f 60 rfl rfl (by dsimp only [tm_c2P]; rw [j3.2.1.2.2.1, e]; exact fun z => z rfl) ?_
        exact Rn.at 8 rfl k2
      · have es : seT c nr ti wf (o, sp) x p g = false := decide_eq_false e
        rw [es] at k2
        refine Rn.if2t 60 rfl rfl (by dsimp only [tm_c2P]; rw [j3.2.1.2.2.1, nI_eq (by omega) (by omega)]; exact e) ?_
        exact Rn.at 5 rfl k2
  have outer : ∀ m p s w2 x5, p + m = c 4 → Fr 4 w w2 → Tri w2 c → ∃ w3, Fr 4 w w3 ∧ Rn none 5 jS_sellers (13, [some (vR (sg 10)), some (vR (cit 0 0)), some (vI (nI x)), some (vI (nI s)), some (vI (nI p)), x5], [], w2) (some (vI (nI (seI (seT c nr ti wf (o, sp) x) (c 3) m p s))), w3) := by
    intro m
    induction m with
    | zero =>
      intro p s w2 x5 hp hf ht
      refine ⟨w2, hf, ?_⟩
      have hG : w2 (cit 0 0) 4 = nI (c 4) := by rw [hf.cit (by decide)]; exact h.1.2.2.1
      refine Rn.if2t 60 rfl rfl (by dsimp only [tm_c2P]; rw [hG]; exact nI_le (by omega) (by omega)) ?_
      exact Rn.ir 60 rfl rfl rfl rfl
    | succ m ih =>
      intro p s w2 x5 hp hf ht
      have hG : w2 (cit 0 0) 4 = nI (c 4) := by rw [hf.cit (by decide)]; exact h.1.2.2.1
      obtain ⟨w3, i1, i2, i3⟩ := inner p (by omega) (c 3) 0 s w2 (by omega) hf ht
      obtain ⟨w4, j1, j2⟩ := ih (p + 1) (seJ (seT c nr ti wf (o, sp) x) p (c 3) 0 s) w3 (some (vI (nI (c 3)))) (by omega) i1 i2
      refine ⟨w4, j1, ?_⟩
      refine Rn.if2f 60 rfl rfl (by dsimp only [tm_c2P]; rw [hG]; exact nI_ge (by omega) (by omega)) ?_
      refine Rn.at 2 rfl (i3 _ ?_)
      unfold seI
      rw [nI_succ p] at j2
      exact Rn.at 2 rfl j2
  obtain ⟨w3, j1, j2⟩ := outer (c 4) 0 0 w1 none (by omega) f2 ⟨_, _, _, _, _, _, f3⟩
  refine ⟨w3, ?_, j1⟩
  refine Cl.of rfl rfl rfl (lc := [some (vR (sg 10)), some (vR (cit 0 0)), some (vI (nI x)), none, none, none]) rfl ?_
  refine Rn.cv 60 rfl rfl rfl rfl rfl f1 (by decide) ?_
  exact Rn.at 4 rfl j2
