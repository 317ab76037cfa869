/-! the round, walked -/
theorem daI_itN {c : Nat → Nat} {nr ti : Nat} {wf : Nat → Nat} : ∀ n q, daI c nr ti wf n q = itN (da c nr ti wf) n q
  | 0, _ => rfl
  | n + 1, q => by
    show daI c nr ti wf n (da c nr ti wf q) = _
    rw [daI_itN n, show n + 1 = n + 1 from rfl, itN_add _ q 1 n]
    rfl
def FrR (w w' : Wd) : Prop := ∀ t, (∀ p, t ≠ cit 4 p) → (∀ p, t ≠ cit 5 p) → t ≠ sg 10 → w' t = w t
theorem FrR.rf {w : Wd} : FrR w w := fun _ _ _ _ => rfl
theorem FrR.tr {w w1 w2 : Wd} (h1 : FrR w w1) (h2 : FrR w1 w2) : FrR w w2 := fun t a b d => (h2 t a b d).trans (h1 t a b d)
theorem FrR.o4 {w w' : Wd} (h : Fr 4 w w') : FrR w w' := fun t a _ _ => h t a
theorem FrR.o5 {w w' : Wd} (h : Fr 5 w w') : FrR w w' := fun t _ a _ => h t a
theorem FrR.oS {w w' : Wd} (h : FrS w w') : FrR w w' := fun t a _ b => h t a b
theorem FrR.town {w w' : Wd} (h : FrR w w') (p : Nat) : w' (cit 0 p) = w (cit 0 p) := h _ (fun q => cit_k (by decide)) (fun q => cit_k (by decide)) cit_sg
theorem nJ_2mul (m : Nat) : nI m * nI 2 = nI (2 * m) := by rw [pk_mul, Nat.mul_comm]
/-- the trial stands at q -/
def At (w : Wd) (k : Fin 6) (c : Nat → Nat) (nr ti : Nat) (wf : Nat → Nat) (q : NN) : Prop := (∃ dy, CiIs w k c nr ti q.1 q.2 dy wf) ∧ DyOk c nr ti q.1 q.2 wf
theorem At.fr {w w' : Wd} {k : Fin 6} {c : Nat → Nat} {nr ti : Nat} {wf : Nat → Nat} {q : NN} (h : At w k c nr ti wf q) (e : ∀ p, w' (cit k p) = w (cit k p)) : At w' k c nr ti wf q := by
  obtain ⟨⟨dy, h1⟩, h2⟩ := h
  exact ⟨⟨dy, h1.fr e⟩, h2⟩
theorem At.rise {w : Wd} {k : Fin 6} {c : Nat → Nat} {nr ti : Nat} {wf : Nat → Nat} {q : NN} (hc : PlOk c) (h : At w k c nr ti wf q) : ∃ w', Cl 5 jC_rise [vR (cit k 0)] w (none, w') ∧ Fr k w w' ∧ At w' k c nr ti wf (da c nr ti wf q) := by
  obtain ⟨⟨dy, h1⟩, h2⟩ := h
  obtain ⟨w', f1, f2, f3⟩ := sp_rise hc h1 h2
  exact ⟨w', f1, f2, ⟨_, f3⟩, h2.da hc⟩
theorem At.like {w : Wd} {k k' : Fin 6} {c c' : Nat → Nat} {nr ti nr' ti' : Nat} {wf wf' : Nat → Nat} {q q' : NN} (h : At w k c nr ti wf q) (h' : At w k' c' nr' ti' wf' q') : Cl 1 jC_isLike [vR (cit k 0), vR (cit k' 0)] w (some (vI (bI (decide (q = q')))), w) := by
  obtain ⟨⟨dy, h1⟩, h2⟩ := h
  obtain ⟨⟨dy', h1'⟩, h2'⟩ := h'
  exact sp_isLike h1.2.1.2.2.1 h1.2.1.2.2.2.1 h1'.2.1.2.2.1 h1'.2.1.2.2.2.1 h2.2.2.1 h2.2.2.2.1 h2'.2.2.1 h2'.2.2.2.1
theorem sp_roundLength {w : Wd} {c : Nat → Nat} {nr ti o sp dy : Nat} {wf : Nat → Nat} (hc : PlOk c) (h : Now w c nr ti o sp dy wf) (ho : DyOk c nr ti o sp wf) : ∃ w', Cl 7 jS_roundLength [vR (sg 10), vR (cit 0 0)] w (some (vI (nI (brL (da c nr ti wf) (o, sp)))), w') ∧ FrR w w' := by
  obtain ⟨w1, f1, f2, f3⟩ := sp_become (k := 4) (k' := 0) (by decide) hc h.1 h.2
  have h1 := h.fr (fun p => f2.cit (k' := 0) (by decide) p)
  obtain ⟨w2, g1, g2, g3⟩ := sp_become (k := 5) (k' := 0) (by decide) hc h1.1 h1.2
  have key : ∀ f i n m t u L w3, brN (da c nr ti wf) f t u n m = some L → i + 1 = m + n → n < m → i + f ≤ 20000 → FrR w w3 → At w3 4 c nr ti wf t → At w3 5 c nr ti wf u → ∃ w4, FrR w w4 ∧ Rn none 6 jS_roundLength (23, [some (vR (sg 10)), some (vR (cit 0 0)), some (vI (nI n)), some (vI (nI m)), some (vI (nI i))], [], w3) (some (vI (nI L)), w4) := by
    intro f
    induction f with
    | zero => intro i n m t u L w3 h; cases h
    | succ f ih =>
      intro i n m t u L w3 hb hi hn hf hr ht hu
      obtain ⟨w4, a1, a2, a3⟩ := hu.rise hc
      have ht4 := ht.fr (fun p => a2.cit (k' := 4) (by decide) p)
      have hr4 := hr.tr (FrR.o5 a2)
      have head : ∀ r, Rn none 6 jS_roundLength (51, [some (vR (sg 10)), some (vR (cit 0 0)), some (vI (nI (n + 1))), some (vI (nI m)), some (vI (nI i))], [vI (bI (decide (da c nr ti wf u = t)))], w4) r → Rn none 6 jS_roundLength (23, [some (vR (sg 10)), some (vR (cit 0 0)), some (vI (nI n)), some (vI (nI m)), some (vI (nI i))], [], w3) r := by
        intro r k1
        refine Rn.if2f 60 rfl rfl (nI_ge (by omega) (by omega)) ?_
        refine Rn.cv 60 rfl rfl rfl rfl rfl a1 (by decide) ?_
        rw [nI_succ n] at k1
        exact Rn.cv 60 rfl rfl rfl rfl rfl (a3.like ht4) (by decide) k1
      unfold brN at hb
      by_cases c1 : da c nr ti wf u = t
      · rw [if_pos c1] at hb
        cases hb
        refine ⟨w4, hr4, head _ ?_⟩
        rw [decide_eq_true c1]
        refine Rn.if1f 60 rfl rfl (by dsimp only [tm_c2P]; decide) ?_
        exact Rn.ir 60 rfl rfl rfl rfl
      · rw [if_neg c1] at hb
        rw [decide_eq_false c1] at head
        by_cases c2 : n + 1 = m
        · rw [if_pos c2] at hb
          obtain ⟨⟨dyt, t1⟩, t2⟩ := ht4
          obtain ⟨⟨dyu, u1⟩, u2⟩ := a3
          obtain ⟨w5, b1, b2, b3⟩ := sp_beginAs (k := 4) (k' := 5) (by decide) hc t1.1 t1.2.2 u1.2.1
          have hu5 : At w5 5 c nr ti wf (da c nr ti wf u) := ⟨⟨dyu, u1.fr (fun p => b2.cit (k' := 5) (by decide) p)⟩, u2⟩
          obtain ⟨w6, d1, d2⟩ := ih (i + 1) 0 (2 * m) _ _ L w5 hb (by omega) (by omega) (by omega) (hr4.tr (FrR.o4 b2)) ⟨⟨_, b3⟩, u2⟩ hu5
          refine ⟨w6, d1, head _ ?_⟩
          refine Rn.if1t 60 rfl rfl (by dsimp only [tm_c2P]; decide) ?_
          refine Rn.if2f 60 rfl rfl (fun z => z (by rw [c2])) ?_
          refine Rn.cv 60 rfl rfl rfl rfl rfl b1 (by decide) ?_
          rw [← nJ_2mul, nI_succ i] at d2
          exact Rn.at 8 rfl d2
        · rw [if_neg c2] at hb
          obtain ⟨w6, d1, d2⟩ := ih (i + 1) (n + 1) m _ _ L w4 hb (by omega) (by omega) (by omega) hr4 ht4 a3
          refine ⟨w6, d1, head _ ?_⟩
          refine Rn.if1t 60 rfl rfl (by dsimp only [tm_c2P]; decide) ?_
          refine Rn.if2t 60 rfl rfl (by dsimp only [tm_c2P]; rw [nI_eq (by omega) (by omega)]; exact c2) ?_
          rw [nI_succ i] at d2
          exact Rn.at 2 rfl d2
  have hL := (brL_is (F := da c nr ti wf) (fun q hq => da_ok hc hq.2) (q := (o, sp)) ⟨ho.2.2.1, ho.2.2.2.1⟩).1
  obtain ⟨w4, e1, e2⟩ := key 20000 0 0 1 _ _ _ w2 hL (by omega) (by omega) (by omega) ((FrR.o4 f2).tr (FrR.o5 g2)) ⟨⟨_, f3.fr (fun p => g2.cit (k' := 4) (by decide) p)⟩, ho⟩ ⟨⟨_, g3⟩, ho⟩
  refine ⟨w4, ?_, e1⟩
  refine Cl.of rfl rfl rfl (lc := [some (vR (sg 10)), some (vR (cit 0 0)), none, none, none]) rfl ?_
  refine Rn.cv 60 rfl rfl rfl rfl rfl f1 (by decide) ?_
  refine Rn.cv 60 rfl rfl rfl rfl rfl g1 (by decide) ?_
  exact Rn.at 6 rfl e2
theorem sp_roundTail {w : Wd} {c : Nat → Nat} {nr ti o sp dy : Nat} {wf : Nat → Nat} (hc : PlOk c) (h : Now w c nr ti o sp dy wf) (ho : DyOk c nr ti o sp wf) : ∃ w', Cl 7 jS_roundTail [vR (sg 10), vR (cit 0 0), vI (nI (brL (da c nr ti wf) (o, sp)))] w (some (vI (nI (tlL (da c nr ti wf) (o, sp)))), w') ∧ FrR w w' := by
  have hF : ∀ q, st8 q → st8 (da c nr ti wf q) := fun q hq => da_ok hc hq.2
  obtain ⟨_, kk, _, _, _, hL⟩ := brL_is hF (q := (o, sp)) ⟨ho.2.2.1, ho.2.2.2.1⟩
  obtain ⟨hT, hT2⟩ := tlL_is hF (q := (o, sp)) ⟨ho.2.2.1, ho.2.2.2.1⟩
  generalize hl : brL (da c nr ti wf) (o, sp) = ll at *
  obtain ⟨w1, f1, f2, f3⟩ := sp_become (k := 4) (k' := 0) (by decide) hc h.1 h.2
  have h1 := h.fr (fun p => f2.cit (k' := 0) (by decide) p)
  obtain ⟨w2, g1, g2, g3⟩ := sp_become (k := 5) (k' := 0) (by decide) hc h1.1 h1.2
  obtain ⟨w3, i1, i2, i3, i4⟩ := sp_rises hc g3 ho (J := jS_roundTail) (d := 6) (pc := 18) (r0 := sg 0) (fun i => [some (vR (sg 10)), some (vR (cit 0 0)), some (vI (nI ll)), some (vI (nI i))]) ll ll 0 (by omega) (by omega) (fun i w1 w2 r hi hc k1 => by
    refine Rn.if2f 60 rfl rfl (nI_ge hi (by omega)) ?_
    refine Rn.cv 60 rfl rfl rfl rfl rfl hc (by decide) ?_
    rw [nI_succ i] at k1
    exact Rn.at 2 rfl k1)
  rw [daI_itN] at i2 i3
  have key : ∀ f n t u L w3, tlN (da c nr ti wf) f t u n = some L → n + f ≤ 30000 → FrR w w3 → At w3 4 c nr ti wf t → At w3 5 c nr ti wf u → ∃ w4, FrR w w4 ∧ Rn none 6 jS_roundTail (38, [some (vR (sg 10)), some (vR (cit 0 0)), some (vI (nI ll)), some (vI (nI n))], [], w3) (some (vI (nI L)), w4) := by
    intro f
    induction f with
    | zero => intro n t u L w3 h; cases h
    | succ f ih =>
      intro n t u L w3 hb hn hr ht hu
      unfold tlN at hb
      have head : ∀ r, Rn none 6 jS_roundTail (55, [some (vR (sg 10)), some (vR (cit 0 0)), some (vI (nI ll)), some (vI (nI n))], [vI (bI (decide (u = t)))], w3) r → Rn none 6 jS_roundTail (38, [some (vR (sg 10)), some (vR (cit 0 0)), some (vI (nI ll)), some (vI (nI n))], [], w3) r := by
        intro r k1
        refine Rn.if2f 60 rfl rfl (nI_ge (by omega) (by omega)) ?_
        exact Rn.cv 60 rfl rfl rfl rfl rfl (hu.like ht) (by decide) k1
      by_cases c1 : t = u
      · rw [if_pos c1] at hb
        cases hb
        refine ⟨w3, hr, head _ ?_⟩
        rw [decide_eq_true c1.symm]
        refine Rn.if1t 60 rfl rfl (by dsimp only [tm_c2P]; decide) ?_
        exact Rn.ir 60 rfl rfl rfl rfl
      · rw [if_neg c1] at hb
        rw [decide_eq_false (fun z => c1 z.symm)] at head
        obtain ⟨w4, a1, a2, a3⟩ := ht.rise hc
        have hu4 := hu.fr (fun p => a2.cit (k' := 5) (by decide) p)
        obtain ⟨w5, b1, b2, b3⟩ := hu4.rise hc
        have ht5 := a3.fr (fun p => b2.cit (k' := 4) (by decide) p)
        obtain ⟨w6, d1, d2⟩ := ih (n + 1) _ _ L w5 hb (by omega) ((hr.tr (FrR.o4 a2)).tr (FrR.o5 b2)) ht5 b3
        refine ⟨w6, d1, head _ ?_⟩
        refine Rn.if1f 60 rfl rfl (by dsimp only [tm_c2P]; decide) ?_
        refine Rn.cv 60 rfl rfl rfl rfl rfl a1 (by decide) ?_
        refine Rn.cv 60 rfl rfl rfl rfl rfl b1 (by decide) ?_
        rw [nI_succ n] at d2
        exact Rn.at 2 rfl d2
  obtain ⟨w4, e1, e2⟩ := key 30000 0 _ _ _ w3 hT (by omega) (((FrR.o4 f2).tr (FrR.o5 g2)).tr (FrR.o5 i1)) ⟨⟨_, (f3.fr (fun p => g2.cit (k' := 4) (by decide) p)).fr (fun p => i1.cit (k' := 4) (by decide) p)⟩, ho⟩ ⟨⟨_, i2⟩, i3⟩
  refine ⟨w4, ?_, e1⟩
  refine Cl.of rfl rfl rfl (lc := [some (vR (sg 10)), some (vR (cit 0 0)), some (vI (nI ll)), none]) rfl ?_
  refine Rn.cv 60 rfl rfl rfl rfl rfl f1 (by decide) ?_
  refine Rn.cv 60 rfl rfl rfl rfl rfl g1 (by decide) ?_
  refine Rn.at 2 rfl (i4 _ ?_)
  refine Rn.if2t 60 rfl rfl (nI_le (Nat.le_refl _) (by omega)) ?_
  exact Rn.at 2 rfl e2
def clW (w : Wd) (k : Fin 6) : Wd := wset (wset (wset (wset (wset (wset (wset w (cit k 0) 0 (nI 0)) (cit k 0) 3 (nI 0)) (cit k 0) 4 (nI 0)) (cit k 0) 12 (nI 0)) (cit k 0) 13 (nI 0)) (cit k 0) 14 (nI 0)) (cit k 0) 16 (-(nI 1))
theorem sp_clear {w : Wd} {k : Fin 6} : Cl 1 jC_clear [vR (cit k 0)] w (none, clW w k) := by
  refine Cl.of rfl rfl rfl (lc := [some (vR (cit k 0))]) rfl ?_
  exact Rn.vr 60 rfl rfl rfl rfl
