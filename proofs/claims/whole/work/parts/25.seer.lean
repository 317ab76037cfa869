/-! foretold: counting bits, dawns ahead, the fewest, swaps, wishes, laws, sets, sold -/
def us_ (x y : Int32) : Int32 := (x.toUInt32 >>> (y.toUInt32 &&& Int32.toUInt32 31)).toInt32
def bcE (x : Int32) : Int32 :=
  let a := x - (us_ x (nI 1) &&& nI 1431655765)
  let b := (a &&& nI 858993459) + (us_ a (nI 2) &&& nI 858993459)
  let d := (b + us_ b (nI 4)) &&& nI 252645135
  let f := d + us_ d (nI 8)
  let g := f + us_ f (nI 16)
  g &&& nI 63
def cnt (n : Nat) : Nat := (n.testBit 0).toNat + (n.testBit 1).toNat + (n.testBit 2).toNat + (n.testBit 3).toNat + (n.testBit 4).toNat + (n.testBit 5).toNat + (n.testBit 6).toNat + (n.testBit 7).toNat
theorem bcE_ok : ∀ n, n < 256 → bcE (nI n) = nI (cnt n) := by decide +kernel
theorem sp_bitCount {w : Wd} {n : Nat} (h : n < 256) : Cl 1 jI_bitCount [vI (nI n)] w (some (vI (nI (cnt n))), w) := by
  refine Cl.of rfl rfl rfl (lc := [some (vI (nI n))]) rfl ?_
  refine Rn.ir 80 rfl rfl rfl ?_
  rw [← bcE_ok n h]
  rfl
theorem cnt_le (n : Nat) : cnt n ≤ 8 := by
  have hb : ∀ b : Bool, b.toNat ≤ 1 := fun b => by cases b <;> decide
  have := hb (n.testBit 0); have := hb (n.testBit 1); have := hb (n.testBit 2); have := hb (n.testBit 3); have := hb (n.testBit 4); have := hb (n.testBit 5); have := hb (n.testBit 6); have := hb (n.testBit 7)
  unfold cnt
  omega
/-- n dawns -/
def daI (c : Nat → Nat) (nr ti : Nat) (wf : Nat → Nat) : Nat → Nat × Nat → Nat × Nat
  | 0, q => q
  | n + 1, q => daI c nr ti wf n (da c nr ti wf q)
theorem DyOk.da {c : Nat → Nat} (hc : PlOk c) {nr ti o sp : Nat} {wf : Nat → Nat} (h : DyOk c nr ti o sp wf) : DyOk c nr ti (da c nr ti wf (o, sp)).1 (da c nr ti wf (o, sp)).2 wf := by
  have h2 := da_ok hc (nr := nr) (ti := ti) (wf := wf) (q := (o, sp)) h.2.2.2.1
  exact ⟨h.1, h.2.1, h2.1, h2.2, h.2.2.2.2⟩
theorem CiIs.fr {w w' : Wd} {k : Fin 6} {c : Nat → Nat} {nr ti o sp dy : Nat} {wf : Nat → Nat} (h : CiIs w k c nr ti o sp dy wf) (e : ∀ p, w' (cit k p) = w (cit k p)) : CiIs w' k c nr ti o sp dy wf := by
  obtain ⟨h1, h2, h3⟩ := h
  refine ⟨h1.of (by rw [e]) (by rw [e]) (by rw [e]) (fun p _ _ => e p), h2.of (fun j _ => by rw [e]) (e 7), ?_⟩
  rcases h3 with z | ⟨mo, z1, z2, z3⟩
  · exact Or.inl (by rw [e]; exact z)
  · exact Or.inr ⟨mo, z1, by rw [e]; exact z2, z3.of (e 8)⟩
theorem Fr.cit {k k' : Fin 6} {w w' : Wd} (h : Fr k w w') (hk : k' ≠ k) (p : Nat) : w' (cit k' p) = w (cit k' p) := h _ (fun q => cit_k hk)
/-- the town that a foretelling starts from -/
def Now (w : Wd) (c : Nat → Nat) (nr ti o sp dy : Nat) (wf : Nat → Nat) : Prop := PlIs w 0 c ∧ DyIs w 0 c nr ti o sp dy wf
theorem Now.fr {w w' : Wd} {c : Nat → Nat} {nr ti o sp dy : Nat} {wf : Nat → Nat} (h : Now w c nr ti o sp dy wf) (e : ∀ p, w' (cit 0 p) = w (cit 0 p)) : Now w' c nr ti o sp dy wf := ⟨h.1.of (by rw [e]) (by rw [e]) (by rw [e]) (fun p _ _ => e p), h.2.of (fun j _ => by rw [e]) (e 7)⟩
/-- dawns of the trial (the loops of behind, staysSo, gladBy) -/
theorem sp_rises {w : Wd} {k : Fin 6} {c : Nat → Nat} {nr ti o sp dy : Nat} {wf : Nat → Nat} (hc : PlOk c) (h : CiIs w k c nr ti o sp dy wf) (ho : DyOk c nr ti o sp wf) {J d pc : Nat} {r0 : TA} (lcf : Nat → Lc) (n m : Nat) (i : Nat) (hi : i + n = m) (hm : m ≤ 100000)
    (step : ∀ (i : Nat) (w1 w2 : Wd) (r : Rs), i < m → Cl 5 jC_rise [vR (cit k 0)] w1 (none, w2) → Rn none d J (pc, lcf (i + 1), [], w2) r → Rn none d J (pc, lcf i, [], w1) r) : ∃ w', Fr k w w' ∧ CiIs w' k c nr ti (daI c nr ti wf n (o, sp)).1 (daI c nr ti wf n (o, sp)).2 (dy + n) wf ∧ DyOk c nr ti (daI c nr ti wf n (o, sp)).1 (daI c nr ti wf n (o, sp)).2 wf ∧ ∀ r, Rn none d J (pc, lcf m, [], w') r → Rn none d J (pc, lcf i, [], w) r := by
  induction n generalizing w o sp dy i with
  | zero =>
    obtain rfl : i = m := by omega
    exact ⟨w, Fr.rf, h, ho, fun r k1 => k1⟩
  | succ n ih =>
    obtain ⟨w1, g1, g2, g3⟩ := sp_rise hc h ho
    obtain ⟨w2, f1, f2, f3, f4⟩ := ih g3 (ho.da hc) (i + 1) (by omega)
    refine ⟨w2, g2.tr f1, ?_, f3, fun r k1 => step i w w1 r (by omega) g1 (f4 r k1)⟩
    rw [show dy + (n + 1) = dy + 1 + n by omega]
    exact f2
theorem sp_behind {w : Wd} {c : Nat → Nat} {nr ti o sp dy : Nat} {wf : Nat → Nat} (hc : PlOk c) (h : Now w c nr ti o sp dy wf) (ho : DyOk c nr ti o sp wf) {n : Nat} (hn : n ≤ 100) : ∃ w', Cl 6 jS_behind [vR (sg 10), vR (cit 0 0), vI (nI n)] w (some (vR (cit 4 0)), w') ∧ Fr 4 w w' ∧ CiIs w' 4 c nr ti (daI c nr ti wf n (o, sp)).1 (daI c nr ti wf n (o, sp)).2 (dy + n) wf ∧ DyOk c nr ti (daI c nr ti wf n (o, sp)).1 (daI c nr ti wf n (o, sp)).2 wf := by
  obtain ⟨w1, f1, f2, f3⟩ := sp_become (k := 4) (k' := 0) (by decide) hc h.1 h.2
  obtain ⟨w2, g1, g2, g3, g4⟩ := sp_rises hc f3 ho (J := jS_behind) (d := 5) (pc := 10) (r0 := sg 0) (fun i => [some (vR (sg 10)), some (vR (cit 0 0)), some (vI (nI n)), some (vI (nI i))]) n n 0 (by omega) (by omega) (fun i w1 w2 r hi hc k1 => by
    refine Rn.if2f 60 rfl rfl (nI_ge hi (by omega)) ?_
    refine Rn.cv 60 rfl rfl rfl rfl rfl hc (by decide) ?_
    rw [nI_succ i] at k1
    exact Rn.at 2 rfl k1)
  refine ⟨w2, ?_, f2.tr g1, g2, g3⟩
  refine Cl.of rfl rfl rfl (lc := [some (vR (sg 10)), some (vR (cit 0 0)), some (vI (nI n)), none]) rfl ?_
  refine Rn.cv 60 rfl rfl rfl rfl rfl f1 (by decide) ?_
  refine Rn.at 2 rfl (g4 _ ?_)
  refine Rn.if2t 60 rfl rfl (nI_le (Nat.le_refl _) (by omega)) ?_
  exact Rn.ar 60 rfl rfl rfl rfl
def wfS (wf : Nat → Nat) (set g : Nat) (b : Bool) (n : Nat) : Nat → Nat := fun q => if q < n ∧ set.testBit q = true then sbN (wf q) g b else wf q
def soK (c : Nat → Nat) (nr ti : Nat) (wf : Nat → Nat) (g : Nat) (b : Bool) : Nat → Nat × Nat → Bool
  | 0, _ => true
  | n + 1, q => if (da c nr ti wf q).1.testBit g = b then soK c nr ti wf g b n (da c nr ti wf q) else false
theorem DyIs.wf {w : Wd} {k : Fin 6} {c : Nat → Nat} {nr ti o sp dy : Nat} {wf wf' : Nat → Nat} (h : DyIs w k c nr ti o sp dy wf) (e : ∀ p, p < c 4 → wf p = wf' p) : DyIs w k c nr ti o sp dy wf' := ⟨h.1, h.2.1, h.2.2.1, h.2.2.2.1, h.2.2.2.2.1, fun p hp => by rw [← e p hp]; exact h.2.2.2.2.2 p hp⟩
theorem CiIs.wf {w : Wd} {k : Fin 6} {c : Nat → Nat} {nr ti o sp dy : Nat} {wf wf' : Nat → Nat} (h : CiIs w k c nr ti o sp dy wf) (e : ∀ p, p < c 4 → wf p = wf' p) : CiIs w k c nr ti o sp dy wf' := ⟨h.1, h.2.1.wf e, h.2.2⟩
theorem sp_staysSo {w : Wd} {c : Nat → Nat} {nr ti o sp dy dy0 nr0 ti0 o0 sp0 : Nat} {wf wf0 : Nat → Nat} (hc : PlOk c) (h : Now w c nr ti o sp dy wf) (ht : CiIs w 4 c nr0 ti0 o0 sp0 dy0 wf0) (ho : DyOk c nr ti o sp wf) {set g n : Nat} (b : Bool) (hs : set < 32) (hg : g < c 3) (hn : n ≤ 10) : ∃ w' nr1 ti1 o1 sp1 dy1 wf1, Cl 6 jS_staysSo [vR (sg 10), vR (cit 0 0), vI (nI set), vI (nI g), vI (bI b), vI (nI n)] w (some (vI (bI (soK c nr ti (wfS wf set g b (c 4)) g b n (o, sp)))), w') ∧ Fr 4 w w' ∧ CiIs w' 4 c nr1 ti1 o1 sp1 dy1 wf1 := by
  have hc4 := hc.2.2.1
  have hc3 := hc.2.1
  obtain ⟨w1, f1, f2, f3⟩ := sp_beginAs (k := 4) (k' := 0) (by decide) hc ht.1 ht.2.2 h.2
  have hlen : ∀ {p : Nat} {w2 : Wd}, Fr 4 w w2 → w2 (cit 0 0) 4 = nI (c 4) := fun hf => by rw [hf.cit (by decide)]; exact h.1.2.2.1
  have key : ∀ m p w2, p + m = c 4 → Fr 4 w w2 → CiIs w2 4 c nr ti o sp dy (wfS wf set g b p) → ∃ w3, Fr 4 w w3 ∧ CiIs w3 4 c nr ti o sp dy (wfS wf set g b (c 4)) ∧ ∀ r, Rn none 5 jS_staysSo (48, [some (vR (sg 10)), some (vR (cit 0 0)), some (vI (nI set)), some (vI (nI g)), some (vI (bI b)), some (vI (nI n)), some (vI (nI (c 4)))], [], w3) r → Rn none 5 jS_staysSo (11, [some (vR (sg 10)), some (vR (cit 0 0)), some (vI (nI set)), some (vI (nI g)), some (vI (bI b)), some (vI (nI n)), some (vI (nI p))], [], w2) r := by
    intro m
    induction m with
    | zero =>
      intro p w2 hp hf hci
      obtain rfl : p = c 4 := by omega
      refine ⟨w2, hf, hci, fun r k1 => ?_⟩
      exact Rn.if2t 60 rfl rfl (by dsimp only [tm_c2P]; rw [hlen (p := 0) hf]; exact nI_le (Nat.le_refl _) (by omega)) k1
    | succ m ih =>
      intro p w2 hp hf hci
      have hpl : p < c 4 := by omega
      have e0 : wfS wf set g b p p = wf p := by unfold wfS; rw [if_neg (by omega)]
      cases hb : set.testBit p with
      | false =>
        obtain ⟨w3, g1, g2, g3⟩ := ih (p + 1) w2 (by omega) hf (hci.wf (fun q hq => by
          unfold wfS
          by_cases e : q = p
          · subst e
            rw [if_neg (by omega), if_neg (by rw [hb]; exact fun z => by cases z.2)]
          · by_cases e2 : q < p
            · simp [e2, show q < p + 1 by omega]
            · simp [e2, show ¬ q < p + 1 by omega]))
        refine ⟨w3, g1, g2, fun r k1 => ?_⟩
        refine Rn.if2f 60 rfl rfl (by dsimp only [tm_c2P]; rw [hlen (p := 0) hf]; exact nI_ge hpl (by omega)) ?_
        refine Rn.if2t 60 rfl rfl (by dsimp only [tm_c2P]; rw [nJ_bit (by omega) (by omega), hb]; decide) ?_
        have k2 := g3 r k1
        rw [nI_succ p] at k2
        exact Rn.at 2 rfl k2
      | true =>
        obtain ⟨w4, i1, i2, i3⟩ := sp_wishSo b hc hci (p := p) (g := g) (by rw [e0]; exact ho.2.2.2.2 p hpl) hpl (by omega)
        obtain ⟨w3, g1, g2, g3⟩ := ih (p + 1) w4 (by omega) (hf.tr i2) (i3.wf (fun q hq => by
          unfold upW wfS
          by_cases e : q = p
          · subst e
            simp [hb]
          · by_cases e2 : q < p
            · simp [e, e2, show q < p + 1 by omega]
            · simp [e, e2, show ¬ q < p + 1 by omega]))
        refine ⟨w3, g1, g2, fun r k1 => ?_⟩
        refine Rn.if2f 60 rfl rfl (by dsimp only [tm_c2P]; rw [hlen (p := 0) hf]; exact nI_ge hpl (by omega)) ?_
        refine Rn.if2f 60 rfl rfl (by dsimp only [tm_c2P]; rw [nJ_bit (by omega) (by omega), hb]; decide) ?_
        refine Rn.cv 60 rfl rfl rfl rfl rfl i1 (by decide) ?_
        have k2 := g3 r k1
        rw [nI_succ p] at k2
        exact Rn.at 2 rfl k2
  obtain ⟨w3, g1, g2, g3⟩ := key (c 4) 0 w1 (by omega) f2 (f3.wf (fun q hq => by unfold wfS; rw [if_neg (by omega)]))
  have hw3 : DyOk c nr ti o sp (wfS wf set g b (c 4)) := ⟨ho.1, ho.2.1, ho.2.2.1, ho.2.2.2.1, fun p hp => by
    unfold wfS
    split
    · exact sbN_lt (ho.2.2.2.2 p hp) (by omega)
    · exact ho.2.2.2.2 p hp⟩
  have key2 : ∀ m i w4 o sp dy, i + m = n → Fr 4 w w4 → CiIs w4 4 c nr ti o sp dy (wfS wf set g b (c 4)) → DyOk c nr ti o sp (wfS wf set g b (c 4)) → ∃ w5 nr1 ti1 o1 sp1 dy1 wf1, Fr 4 w w5 ∧ CiIs w5 4 c nr1 ti1 o1 sp1 dy1 wf1 ∧ Rn none 5 jS_staysSo (51, [some (vR (sg 10)), some (vR (cit 0 0)), some (vI (nI set)), some (vI (nI g)), some (vI (bI b)), some (vI (nI n)), some (vI (nI i))], [], w4) (some (vI (bI (soK c nr ti (wfS wf set g b (c 4)) g b m (o, sp)))), w5) := by
    intro m
    induction m with
    | zero =>
      intro i w4 o sp dy hi hf hci hdo
      refine ⟨w4, nr, ti, o, sp, dy, _, hf, hci, ?_⟩
      refine Rn.if2t 60 rfl rfl (nI_le (by omega) (by omega)) ?_
      exact Rn.zr 60 rfl rfl rfl (by decide) rfl
    | succ m ih =>
      intro i w4 o sp dy hi hf hci hdo
      obtain ⟨w5, j1, j2, j3⟩ := sp_rise hc hci hdo
      have hd2 := hdo.da hc
      have hbit : ∀ {x : Int32}, w5 (cit 4 0) 12 >>> (nI g &&& 31) &&& nI 1 = bI ((da c nr ti (wfS wf set g b (c 4)) (o, sp)).1.testBit g) := by
        intro _
        rw [j3.2.1.2.2.1, nJ_bit (by have := hd2.2.2.1; omega) (by omega)]
      by_cases hb : (da c nr ti (wfS wf set g b (c 4)) (o, sp)).1.testBit g = b
      · obtain ⟨w6, nr1, ti1, o1, sp1, dy1, wf1, l1, l2, l3⟩ := ih (i + 1) w5 _ _ _ (by omega) (hf.tr j2) j3 hd2
        refine ⟨w6, nr1, ti1, o1, sp1, dy1, wf1, l1, l2, ?_⟩
        refine Rn.if2f 60 rfl rfl (nI_ge (by omega) (by omega)) ?_
        refine Rn.cv 60 rfl rfl rfl rfl rfl j1 (by decide) ?_
        refine Rn.if2t 60 rfl rfl (by dsimp only [tm_c2P]; rw [hbit (x := 0), hb]) ?_
        unfold soK
        rw [if_pos hb]
        rw [nI_succ i] at l3
        exact Rn.at 2 rfl l3
      · refine ⟨w5, nr, ti, _, _, _, _, hf.tr j2, j3, ?_⟩
        refine Rn.if2f 60 rfl rfl (nI_ge (by omega) (by omega)) ?_
        refine Rn.cv 60 rfl rfl rfl rfl rfl j1 (by decide) ?_
        refine Rn.if2f 60 rfl rfl (by dsimp only [tm_c2P]; rw [hbit (x := 0), bI_inj]; exact hb) ?_
        unfold soK
        rw [if_neg hb]
        exact Rn.zr 60 rfl rfl rfl (by decide) rfl
  obtain ⟨w5, nr1, ti1, o1, sp1, dy1, wf1, l1, l2, l3⟩ := key2 n 0 w3 o sp dy (by omega) g1 g2 hw3
  refine ⟨w5, nr1, ti1, o1, sp1, dy1, wf1, ?_, l1, l2⟩
  refine Cl.of rfl rfl rfl (lc := [some (vR (sg 10)), some (vR (cit 0 0)), some (vI (nI set)), some (vI (nI g)), some (vI (bI b)), some (vI (nI n)), none]) rfl ?_
  refine Rn.cv 60 rfl rfl rfl rfl rfl f1 (by decide) ?_
  refine Rn.at 2 rfl (g3 _ ?_)
  exact Rn.at 2 rfl l3
