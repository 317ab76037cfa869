/-! foretold: the fewest, swaps, wishes, laws, sets, sold -/
/-- what a foretelling may leave behind: the trial is some city of the same plan -/
def Tri (w : Wd) (c : Nat → Nat) : Prop := ∃ nr ti o sp dy wf, CiIs w 4 c nr ti o sp dy wf
def feQ (a : Option Nat) (s : Nat) : Bool := match a with
  | none => true
  | some f => decide (cnt s < cnt f)
def feN (t : Nat → Bool) : Nat → Nat → Option Nat → Option Nat
  | 0, _, a => a
  | n + 1, s, a => feN t n (s + 1) (if feQ a s && t s then some s else a)
def feI (a : Option Nat) : Int32 := match a with
  | none => -(nI 1000000)
  | some f => nI f
def feL (a : Option Nat) : Nat := match a with
  | none => 6
  | some f => cnt f
theorem cnt5 : ∀ n, n < 32 → cnt n ≤ 5 := by decide +kernel
theorem sp_fewest {w : Wd} {c : Nat → Nat} {nr ti o sp dy : Nat} {wf : Nat → Nat} (hc : PlOk c) (h : Now w c nr ti o sp dy wf) (ho : DyOk c nr ti o sp wf) {g n : Nat} (b : Bool) (hg : g < c 3) (hn : n ≤ 10) : ∃ w', Cl 7 jS_fewest [vR (sg 10), vR (cit 0 0), vI (nI g), vI (bI b), vI (nI n)] w (some (vI (feI (feN (fun s => soK c nr ti (wfS wf s g b (c 4)) g b n (o, sp)) (2 ^ c 4) 0 none))), w') ∧ Fr 4 w w' := by
  have hc4 := hc.2.2.1
  have hc3 := hc.2.1
  have hp4 : 2 ^ c 4 ≤ 32 := Nat.pow_le_pow_right (n := 2) (by decide) hc4
  obtain ⟨w1, f1, f2, f3⟩ := sp_become (k := 4) (k' := 0) (by decide) hc h.1 h.2
  have key : ∀ m s a w2 x8, s + m = 2 ^ c 4 → (∀ f, a = some f → f < 32) → Fr 4 w w2 → Tri w2 c → ∃ w', Fr 4 w w' ∧ Rn none 6 jS_fewest (19, [some (vR (sg 10)), some (vR (cit 0 0)), some (vI (nI g)), some (vI (bI b)), some (vI (nI n)), some (vI (feI a)), some (vI (nI (feL a))), some (vI (nI s)), x8], [], w2) (some (vI (feI (feN (fun s => soK c nr ti (wfS wf s g b (c 4)) g b n (o, sp)) m s a))), w') := by
    intro m
    induction m with
    | zero =>
      intro s a w2 x8 hs ha hf ht
      refine ⟨w2, hf, ?_⟩
      have hp : w2 (cit 0 0) 4 = nI (c 4) := by rw [hf.cit (by decide)]; exact h.1.2.2.1
      refine Rn.if2t 60 rfl rfl (by dsimp only [tm_c2P]; rw [hp, nJ_1shl (by omega)]; exact nI_le (by omega) (by omega)) ?_
      exact Rn.ir 60 rfl rfl rfl rfl
    | succ m ih =>
      intro s a w2 x8 hs ha hf ht
      have hp : w2 (cit 0 0) 4 = nI (c 4) := by rw [hf.cit (by decide)]; exact h.1.2.2.1
      have hL : feL a ≤ 8 := by cases a with
        | none => decide
        | some f => exact cnt_le f
      have hcs := cnt5 s (by omega)
      have st1 : ∀ {r}, Rn none 6 jS_fewest (37, [some (vR (sg 10)), some (vR (cit 0 0)), some (vI (nI g)), some (vI (bI b)), some (vI (nI n)), some (vI (feI a)), some (vI (nI (feL a))), some (vI (nI s)), some (vI (nI (cnt s)))], [], w2) r → Rn none 6 jS_fewest (19, [some (vR (sg 10)), some (vR (cit 0 0)), some (vI (nI g)), some (vI (bI b)), some (vI (nI n)), some (vI (feI a)), some (vI (nI (feL a))), some (vI (nI s)), x8], [], w2) r := by
        intro r k1
        refine Rn.if2f 60 rfl rfl (by dsimp only [tm_c2P]; rw [hp, nJ_1shl (by omega)]; exact nI_ge (by omega) (by omega)) ?_
        refine Rn.cs 60 rfl rfl rfl rfl (sp_bitCount (by omega)) (by decide) ?_
        exact Rn.at 1 rfl k1
      have hmt : feQ a s = decide (cnt s < feL a) := by
        cases a with
        | none => exact (decide_eq_true (by show cnt s < 6; omega)).symm
        | some f => rfl
      by_cases hlt : cnt s < feL a
      · obtain ⟨w3, nr1, ti1, o1, sp1, dy1, wf1, g1, g2, g3⟩ := sp_staysSo (dy := dy) hc (h.fr (fun p => hf.cit (by decide) p)) ht.choose_spec.choose_spec.choose_spec.choose_spec.choose_spec.choose_spec ho (set := s) (g := g) (n := n) b (by omega) hg hn
        cases hso : soK c nr ti (wfS wf s g b (c 4)) g b n (o, sp) with
        | false =>
          obtain ⟨w', i1, i2⟩ := ih (s + 1) a w3 (some (vI (nI (cnt s)))) (by omega) ha (hf.tr g2) ⟨nr1, ti1, o1, sp1, dy1, wf1, g3⟩
          refine ⟨w', i1, st1 ?_⟩
          refine Rn.if2f 60 rfl rfl (nI_ge hlt (by omega)) ?_
          refine Rn.cv 60 rfl rfl rfl rfl rfl g1 (by decide) ?_
          rw [hso]
          refine Rn.if1t 60 rfl rfl bI_f0 ?_
          unfold feN
          rw [hso, Bool.and_false, if_neg (fun z => by cases z)]
          rw [nI_succ s] at i2
          exact Rn.at 2 rfl i2
        | true =>
          obtain ⟨w', i1, i2⟩ := ih (s + 1) (some s) w3 (some (vI (nI (cnt s)))) (by omega) (fun f hf => by cases hf; omega) (hf.tr g2) ⟨nr1, ti1, o1, sp1, dy1, wf1, g3⟩
          refine ⟨w', i1, st1 ?_⟩
          refine Rn.if2f 60 rfl rfl (nI_ge hlt (by omega)) ?_
          refine Rn.cv 60 rfl rfl rfl rfl rfl g1 (by decide) ?_
          rw [hso]
          refine Rn.if1f 60 rfl rfl bI_t0 ?_
          unfold feN
          rw [hso, Bool.and_true, hmt, decide_eq_true hlt, if_pos rfl]
          rw [nI_succ s] at i2
          exact Rn.at 6 rfl i2
      · obtain ⟨w', i1, i2⟩ := ih (s + 1) a w2 (some (vI (nI (cnt s)))) (by omega) ha hf ht
        refine ⟨w', i1, st1 ?_⟩
        refine Rn.if2t 60 rfl rfl (nI_le (by omega) (by omega)) ?_
        unfold feN
        rw [hmt, decide_eq_false hlt, Bool.false_and, if_neg (fun z => by cases z)]
        rw [nI_succ s] at i2
        exact Rn.at 2 rfl i2
  obtain ⟨w', i1, i2⟩ := key (2 ^ c 4) 0 none w1 none (by omega) (fun f hf => by cases hf) f2 ⟨_, _, _, _, _, _, f3⟩
  refine ⟨w', ?_, i1⟩
  refine Cl.of rfl rfl rfl (lc := [some (vR (sg 10)), some (vR (cit 0 0)), some (vI (nI g)), some (vI (bI b)), some (vI (nI n)), none, none, none, none]) rfl ?_
  refine Rn.cv 60 rfl rfl rfl rfl rfl f1 (by decide) ?_
  exact Rn.at 6 rfl i2
def agl (c : Nat → Nat) (o a b : Nat) : Bool := gl c o a && gl c o b
theorem sp_areGlad {w : Wd} {c : Nat → Nat} {nr ti o sp dy : Nat} {wf : Nat → Nat} (hc : PlOk c) (h : CiIs w 4 c nr ti o sp dy wf) (h8 : o < 256) {a b : Nat} (ha : a < c 4) (hb : b < c 4) : Cl 4 jS_areGlad [vR (sg 10), vI (nI a), vI (nI b)] w (some (vI (bI (agl c o a b))), w) := by
  refine Cl.of rfl rfl rfl (lc := [some (vR (sg 10)), some (vI (nI a)), some (vI (nI b))]) rfl ?_
  refine Rn.cv 60 rfl rfl rfl rfl rfl (sp_isGlad hc h.1 h.2.1.2.2.1 h8 ha) (by decide) ?_
  unfold agl
  cases gl c o a with
  | false =>
    refine Rn.if1t 60 rfl rfl bI_f0 ?_
    exact Rn.zr 60 rfl rfl rfl (by decide) rfl
  | true =>
    refine Rn.if1f 60 rfl rfl bI_t0 ?_
    refine Rn.cv 60 rfl rfl rfl rfl rfl (sp_isGlad hc h.1 h.2.1.2.2.1 h8 hb) (by decide) ?_
    cases gl c o b with
    | false =>
      refine Rn.if1t 60 rfl rfl bI_f0 ?_
      exact Rn.zr 60 rfl rfl rfl (by decide) rfl
    | true =>
      refine Rn.if1f 60 rfl rfl bI_t0 ?_
      exact Rn.zr 60 rfl rfl rfl (by decide) rfl
/-- the wishes of a swap -/
def wfX (wf : Nat → Nat) (a b one two : Nat) : Nat → Nat := upW (upW wf a (sbN (wf a) one ((wf b).testBit one))) b (sbN (wf b) two ((wf a).testBit two))
def swh (c : Nat → Nat) (nr ti : Nat) (wf : Nat → Nat) (q : Nat × Nat) (a b one two : Nat) : Bool := agl c (da c nr ti (wfX wf a b one two) q).1 a b
theorem sp_swapHelps {w : Wd} {c : Nat → Nat} {nr ti o sp dy : Nat} {wf : Nat → Nat} (hc : PlOk c) (h : Now w c nr ti o sp dy wf) (ht : Tri w c) (ho : DyOk c nr ti o sp wf) {a b one two : Nat} (ha : a < c 4) (hb : b < c 4) (hab : a ≠ b) (h1 : one < c 3) (h2 : two < c 3) : ∃ w', Cl 6 jS_swapHelps [vR (sg 10), vR (cit 0 0), vI (nI a), vI (nI b), vI (nI one), vI (nI two)] w (some (vI (bI (swh c nr ti wf (o, sp) a b one two))), w') ∧ Fr 4 w w' ∧ Tri w' c := by
  have hc4 := hc.2.2.1
  have hc3 := hc.2.1
  obtain ⟨nr0, ti0, o0, sp0, dy0, wf0, ht⟩ := ht
  obtain ⟨w1, f1, f2, f3⟩ := sp_beginAs (k := 4) (k' := 0) (by decide) hc ht.1 ht.2.2 h.2
  have n1 := h.fr (fun p => f2.cit (k' := 0) (by decide) p)
  obtain ⟨w2, g1, g2, g3⟩ := sp_wishSo ((wf b).testBit one) hc f3 (p := a) (g := one) (ho.2.2.2.2 a ha) ha (by omega)
  have n2 := n1.fr (fun p => g2.cit (k' := 0) (by decide) p)
  have eb : upW wf a (sbN (wf a) one ((wf b).testBit one)) b = wf b := by unfold upW; rw [if_neg (Ne.symm hab)]
  obtain ⟨w3, i1, i2, i3⟩ := sp_wishSo ((wf a).testBit two) hc g3 (p := b) (g := two) (by rw [eb]; exact ho.2.2.2.2 b hb) hb (by omega)
  rw [eb] at i3
  have hd : DyOk c nr ti o sp (wfX wf a b one two) := ⟨ho.1, ho.2.1, ho.2.2.1, ho.2.2.2.1, fun p hp => by
    unfold wfX upW
    split
    · exact sbN_lt (ho.2.2.2.2 b hb) (by omega)
    · split
      · exact sbN_lt (ho.2.2.2.2 a ha) (by omega)
      · exact ho.2.2.2.2 p hp⟩
  obtain ⟨w4, j1, j2, j3⟩ := sp_rise hc i3 hd
  have hd2 := hd.da hc
  refine ⟨w4, ?_, ((f2.tr g2).tr i2).tr j2, ⟨_, _, _, _, _, _, j3⟩⟩
  refine Cl.of rfl rfl rfl (lc := [some (vR (sg 10)), some (vR (cit 0 0)), some (vI (nI a)), some (vI (nI b)), some (vI (nI one)), some (vI (nI two))]) rfl ?_
  refine Rn.cv 60 rfl rfl rfl rfl rfl f1 (by decide) ?_
  refine Rn.cv 60 rfl rfl rfl rfl rfl (sp_wishFor (k := 0) (n1.2.2.2.2.2.2 b hb) (ho.2.2.2.2 b hb) (by omega) (by omega)) (by decide) ?_
  refine Rn.cv 60 rfl rfl rfl rfl rfl g1 (by decide) ?_
  refine Rn.cv 60 rfl rfl rfl rfl rfl (sp_wishFor (k := 0) (n2.2.2.2.2.2.2 a ha) (ho.2.2.2.2 a ha) (by omega) (by omega)) (by decide) ?_
  refine Rn.cv 60 rfl rfl rfl rfl rfl i1 (by decide) ?_
  refine Rn.cv 60 rfl rfl rfl rfl rfl j1 (by decide) ?_
  refine Rn.cv 60 rfl rfl rfl rfl rfl (sp_areGlad hc j3 hd2.2.2.1 ha hb) (by decide) ?_
  exact Rn.zr 60 rfl rfl rfl (bI01 _) rfl
def swJ (t : Nat → Nat → Bool) (one : Nat) : Nat → Nat → Option Nat
  | 0, _ => none
  | n + 1, two => if one ≠ two ∧ t one two = true then some (8 * one + two) else swJ t one n (two + 1)
def swI (t : Nat → Nat → Bool) (G : Nat) : Nat → Nat → Option Nat
  | 0, _ => none
  | n + 1, one => match swJ t one G 0 with
    | some x => some x
    | none => swI t G n (one + 1)
theorem sp_firstSwap {w : Wd} {c : Nat → Nat} {nr ti o sp dy : Nat} {wf : Nat → Nat} (hc : PlOk c) (h : Now w c nr ti o sp dy wf) (ho : DyOk c nr ti o sp wf) {a b : Nat} (ha : a < c 4) (hb : b < c 4) (hab : a ≠ b) : ∃ w', Cl 7 jS_firstSwap [vR (sg 10), vR (cit 0 0), vI (nI a), vI (nI b)] w (some (vI (feI (if agl c (da c nr ti wf (o, sp)).1 a b then none else swI (swh c nr ti wf (o, sp) a b) (c 3) (c 3) 0))), w') ∧ Fr 4 w w' := by
  have hc4 := hc.2.2.1
  have hc3 := hc.2.1
  obtain ⟨w1, f1, f2, f3⟩ := sp_become (k := 4) (k' := 0) (by decide) hc h.1 h.2
  obtain ⟨w2, g1, g2, g3⟩ := sp_rise hc f3 ho
  have hd2 := ho.da hc
  have hen : ∀ {r}, Rn none 6 jS_firstSwap (21, [some (vR (sg 10)), some (vR (cit 0 0)), some (vI (nI a)), some (vI (nI b)), none, none], [vI (bI (agl c (da c nr ti wf (o, sp)).1 a b))], w2) r → Cl 7 jS_firstSwap [vR (sg 10), vR (cit 0 0), vI (nI a), vI (nI b)] w r := by
    intro r k1
    refine Cl.of rfl rfl rfl (lc := [some (vR (sg 10)), some (vR (cit 0 0)), some (vI (nI a)), some (vI (nI b)), none, none]) rfl ?_
    refine Rn.cv 60 rfl rfl rfl rfl rfl f1 (by decide) ?_
    refine Rn.cv 60 rfl rfl rfl rfl rfl g1 (by decide) ?_
    refine Rn.cv 60 rfl rfl rfl rfl rfl (sp_areGlad hc g3 hd2.2.2.1 ha hb) (by decide) ?_
    exact k1
  cases hg : agl c (da c nr ti wf (o, sp)).1 a b with
  | true =>
    refine ⟨w2, hen ?_, f2.tr g2⟩
    rw [hg]
    refine Rn.if1f 60 rfl rfl bI_t0 ?_
    exact Rn.ir 60 rfl rfl rfl rfl
  | false =>
    have hG : ∀ {w3 : Wd}, Fr 4 w w3 → w3 (cit 0 0) 3 = nI (c 3) := fun hf => by rw [hf.cit (by decide)]; exact h.1.2.1
    have inner : ∀ one, one < c 3 → ∀ m two w3, two + m = c 3 → Fr 4 w w3 → Tri w3 c → ∃ w4, Fr 4 w w4 ∧ Tri w4 c ∧ (∀ x, swJ (swh c nr ti wf (o, sp) a b) one m two = some x → Rn none 6 jS_firstSwap (42, [some (vR (sg 10)), some (vR (cit 0 0)), some (vI (nI a)), some (vI (nI b)), some (vI (nI one)), some (vI (nI two))], [], w3) (some (vI (nI x)), w4)) ∧ (swJ (swh c nr ti wf (o, sp) a b) one m two = none → ∀ r, Rn none 6 jS_firstSwap (87, [some (vR (sg 10)), some (vR (cit 0 0)), some (vI (nI a)), some (vI (nI b)), some (vI (nI one)), some (vI (nI (c 3)))], [], w4) r → Rn none 6 jS_firstSwap (42, [some (vR (sg 10)), some (vR (cit 0 0)), some (vI (nI a)), some (vI (nI b)), some (vI (nI one)), some (vI (nI two))], [], w3) r) := by
      intro one h1 m
      induction m with
      | zero =>
        intro two w3 hm hf ht
        obtain rfl : two = c 3 := by omega
        refine ⟨w3, hf, ht, fun x z => (by cases z), fun _ r k1 => ?_⟩
        exact Rn.if2t 60 rfl rfl (by dsimp only [tm_c2P]; rw [hG hf]; exact nI_le (Nat.le_refl _) (by omega)) k1
      | succ m ih =>
        intro two w3 hm hf ht
        have h2 : two < c 3 := by omega
        by_cases e : one = two
        · obtain ⟨w4, i1, i2, i3, i4⟩ := ih (two + 1) w3 (by omega) hf ht
          have es : swJ (swh c nr ti wf (o, sp) a b) one (m + 1) two = swJ (swh c nr ti wf (o, sp) a b) one m (two + 1) := by
            rw [swJ, if_neg (fun z => z.1 e)]
          have go : ∀ {r}, Rn none 6 jS_firstSwap (42, [some (vR (sg 10)), some (vR (cit 0 0)), some (vI (nI a)), some (vI (nI b)), some (vI (nI one)), some (vI (nI (two + 1)))], [], w3) r → Rn none 6 jS_firstSwap (42, [some (vR (sg 10)), some (vR (cit 0 0)), some (vI (nI a)), some (vI (nI b)), some (vI (nI one)), some (vI (nI two))], [], w3) r := by
            intro r k1
            refine Rn.if2f 60 rfl rfl (by dsimp only [tm_c2P]; rw [hG hf]; exact nI_ge h2 (by omega)) ?_
            refine Rn.if2t 60 rfl rfl (by dsimp only [tm_c2P]; rw [e]) ?_
            rw [nI_succ two] at k1
            exact Rn.at 2 rfl k1
          refine ⟨w4, i1, i2, fun x hx => go (i3 x (es ▸ hx)), fun hx r k1 => go (i4 (es ▸ hx) r k1)⟩
        · obtain ⟨w5, l1, l2, l3⟩ := sp_swapHelps (dy := dy) hc (h.fr (fun p => hf.cit (k' := 0) (by decide) p)) ht ho ha hb hab h1 h2
          cases hs : swh c nr ti wf (o, sp) a b one two with
          | true =>
            have es : swJ (swh c nr ti wf (o, sp) a b) one (m + 1) two = some (8 * one + two) := by rw [swJ, if_pos ⟨e, hs⟩]
            refine ⟨w5, hf.tr l2, l3, fun x hx => ?_, fun hx => by rw [es] at hx; cases hx⟩
            rw [es] at hx
            cases hx
            refine Rn.if2f 60 rfl rfl (by dsimp only [tm_c2P]; rw [hG hf]; exact nI_ge h2 (by omega)) ?_
            refine Rn.if2f 60 rfl rfl (by dsimp only [tm_c2P]; rw [nI_eq (by omega) (by omega)]; exact e) ?_
            refine Rn.cv 60 rfl rfl rfl rfl rfl l1 (by decide) ?_
            rw [hs]
            refine Rn.if1f 60 rfl rfl bI_t0 ?_
            refine Rn.ir 60 rfl rfl rfl ?_
            dsimp only
            rw [pk_mul, nI_add]
          | false =>
            obtain ⟨w4, i1, i2, i3, i4⟩ := ih (two + 1) w5 (by omega) (hf.tr l2) l3
            have es : swJ (swh c nr ti wf (o, sp) a b) one (m + 1) two = swJ (swh c nr ti wf (o, sp) a b) one m (two + 1) := by
              rw [swJ, if_neg (fun z => by rw [hs] at z; cases z.2)]
            have go : ∀ {r}, Rn none 6 jS_firstSwap (42, [some (vR (sg 10)), some (vR (cit 0 0)), some (vI (nI a)), some (vI (nI b)), some (vI (nI one)), some (vI (nI (two + 1)))], [], w5) r → Rn none 6 jS_firstSwap (42, [some (vR (sg 10)), some (vR (cit 0 0)), some (vI (nI a)), some (vI (nI b)), some (vI (nI one)), some (vI (nI two))], [], w3) r := by
              intro r k1
              refine Rn.if2f 60 rfl rfl (by dsimp only [tm_c2P]; rw [hG hf]; exact nI_ge h2 (by omega)) ?_
              refine Rn.if2f 60 rfl rfl (by dsimp only [tm_c2P]; rw [nI_eq (by omega) (by omega)]; exact e) ?_
              refine Rn.cv 60 rfl rfl rfl rfl rfl l1 (by decide) ?_
              rw [hs]
              refine Rn.if1t 60 rfl rfl bI_f0 ?_
              rw [nI_succ two] at k1
              exact Rn.at 2 rfl k1
            refine ⟨w4, i1, i2, fun x hx => go (i3 x (es ▸ hx)), fun hx r k1 => go (i4 (es ▸ hx) r k1)⟩
    have outer : ∀ m one w3 x5, one + m = c 3 → Fr 4 w w3 → Tri w3 c → ∃ w4, Fr 4 w w4 ∧ Rn none 6 jS_firstSwap (30, [some (vR (sg 10)), some (vR (cit 0 0)), some (vI (nI a)), some (vI (nI b)), some (vI (nI one)), x5], [], w3) (some (vI (feI (swI (swh c nr ti wf (o, sp) a b) (c 3) m one))), w4) := by
      intro m
      induction m with
      | zero =>
        intro one w3 x5 hm hf ht
        refine ⟨w3, hf, ?_⟩
        refine Rn.if2t 60 rfl rfl (by dsimp only [tm_c2P]; rw [hG hf]; exact nI_le (by omega) (by omega)) ?_
        exact Rn.ir 60 rfl rfl rfl rfl
      | succ m ih =>
        intro one w3 x5 hm hf ht
        obtain ⟨w4, i1, i2, i3, i4⟩ := inner one (by omega) (c 3) 0 w3 (by omega) hf ht
        have go : ∀ {r}, Rn none 6 jS_firstSwap (42, [some (vR (sg 10)), some (vR (cit 0 0)), some (vI (nI a)), some (vI (nI b)), some (vI (nI one)), some (vI (nI 0))], [], w3) r → Rn none 6 jS_firstSwap (30, [some (vR (sg 10)), some (vR (cit 0 0)), some (vI (nI a)), some (vI (nI b)), some (vI (nI one)), x5], [], w3) r := by
          intro r k1
          refine Rn.if2f 60 rfl rfl (by dsimp only [tm_c2P]; rw [hG hf]; exact nI_ge (by omega) (by omega)) ?_
          exact Rn.at 2 rfl k1
        cases hj : swJ (swh c nr ti wf (o, sp) a b) one (c 3) 0 with
        | some x =>
          refine ⟨w4, i1, go ?_⟩
          have es : swI (swh c nr ti wf (o, sp) a b) (c 3) (m + 1) one = some x := by rw [swI, hj]
          rw [es]
          exact i3 x hj
        | none =>
          obtain ⟨w5, j1, j2⟩ := ih (one + 1) w4 (some (vI (nI (c 3)))) (by omega) i1 i2
          refine ⟨w5, j1, go (i4 hj _ ?_)⟩
          have es : swI (swh c nr ti wf (o, sp) a b) (c 3) (m + 1) one = swI (swh c nr ti wf (o, sp) a b) (c 3) m (one + 1) := by rw [swI, hj]
          rw [es]
          rw [nI_succ one] at j2
          exact Rn.at 2 rfl j2
    obtain ⟨w4, j1, j2⟩ := outer (c 3) 0 w2 none (by omega) (f2.tr g2) ⟨_, _, _, _, _, _, g3⟩
    refine ⟨w4, hen ?_, j1⟩
    rw [hg]
    refine Rn.if1t 60 rfl rfl bI_f0 ?_
    exact Rn.at 2 rfl j2
