/-! the class's city: votes, dawn, copies -/
theorem sp_stepsOf {w : Wd} {k : Fin 6} {c : Nat → Nat} {o p g : Nat} (hc : PlOk c) (hT : Tab w k c o) (hpl : p < c 4) (hg : g < c 3) : Cl 1 jC_stepsOf [vR (cit k 0), vI (nI p), vI (nI g)] w (some (vI (nI (st c o p g))), w) := by
  have hc4 := hc.2.2.1
  have hc3 := hc.2.1
  refine Cl.of rfl rfl rfl (lc := [some (vR (cit k 0)), some (vI (nI p)), some (vI (nI g))]) rfl ?_
  refine Rn.al (j := 8 * p + g) 60 rfl rfl rfl (by show nI p * nI 8 + nI g = _; rw [pk_mul, nI_add, Nat.mul_comm]) (by omega) ?_
  rw [hT p hpl g hg]
  exact Rn.ir 60 rfl rfl rfl rfl
theorem sp_wishFor {w : Wd} {k : Fin 6} {f : Nat} {p g : Nat} (hw : w (cit k 7) p = nI f) (hf : f < 256) (hp : p < 5) (hg : g < 8) : Cl 1 jC_wishFor [vR (cit k 0), vI (nI p), vI (nI g)] w (some (vI (bI (f.testBit g))), w) := by
  refine Cl.of rfl rfl rfl (lc := [some (vR (cit k 0)), some (vI (nI p)), some (vI (nI g))]) rfl ?_
  refine Rn.al 60 rfl rfl rfl rfl (by omega) ?_
  rw [hw]
  refine Rn.ir 60 rfl rfl rfl ?_
  dsimp only
  rw [nJ_bit (by omega) (by omega)]
theorem sp_voiceOf {w : Wd} {k : Fin 6} {c : Nat → Nat} {nr ti o sp dy : Nat} {wf : Nat → Nat} {p g : Nat} (hc : PlOk c) (hp : PlIs w k c) (hd : DyIs w k c nr ti o sp dy wf) (ho : DyOk c nr ti o sp wf) (hT : Tab w k c o) (hpl : p < c 4) (hg : g < c 3) : Cl 2 jC_voiceOf [vR (cit k 0), vI (nI p), vI (nI g)] w (some (vI (nI (vc c nr o p g))), w) := by
  obtain ⟨b1, b2, b3, b4⟩ := hc.2.2.2.2 p hpl
  obtain ⟨a1, a2, a3, a4⟩ := hp.2.2.2.2 p hpl
  obtain ⟨d1, d2, d3, d4, d5, d6⟩ := hd
  obtain ⟨o1, o2, o3, o4, o5⟩ := ho
  have hc4 := hc.2.2.1
  have hc3 := hc.2.1
  have hst : st c o p g ≤ 100 := stT_100 6
  refine Cl.of rfl rfl rfl (lc := [some (vR (cit k 0)), some (vI (nI p)), some (vI (nI g)), none]) rfl ?_
  refine Rn.al 60 rfl rfl rfl rfl (by omega) ?_
  rw [a1]
  refine Rn.if2 60 rfl rfl (fun h => ?_) (fun h => ?_)
  · dsimp only [tm_c2P] at h
    rw [nI_eq (by omega) (by decide)] at h
    refine Rn.cv 60 rfl rfl rfl rfl rfl (sp_stepsOf hc hT hpl hg) (by decide) ?_
    refine Rn.if2 60 rfl rfl (fun h2 => ?_) (fun h2 => ?_)
    · dsimp only [tm_c2P] at h2
      rw [d1, nJ_lt (by omega) (by omega)] at h2
      refine Rn.al 60 rfl rfl rfl rfl (by omega) ?_
      rw [a1]
      refine Rn.if2 60 rfl rfl (fun h3 => ?_) (fun h3 => ?_)
      · dsimp only [tm_c2P] at h3
        rw [nI_eq (by omega) (by decide)] at h3
        refine Rn.ir 60 rfl rfl rfl ?_
        unfold vc
        rw [if_neg h, if_neg (by omega), decide_eq_false h3]
        rfl
      · dsimp only [tm_c2P] at h3
        rw [nI_eq (by omega) (by decide), Classical.not_not] at h3
        refine Rn.cv 60 rfl rfl rfl rfl rfl (sp_isWalledIn hc hp d3 o3 hpl) (by decide) ?_
        refine Rn.if1 60 rfl rfl (fun h4 => ?_) (fun h4 => ?_)
        · dsimp only [tm_c2P] at h4
          rw [bI_eq0] at h4
          refine Rn.ir 60 rfl rfl rfl ?_
          unfold vc
          rw [if_neg h, if_neg (by omega), h4, Bool.and_false]
          rfl
        · dsimp only [tm_c2P] at h4
          rw [bI_eq0, Bool.not_eq_false] at h4
          refine Rn.ir 60 rfl rfl rfl ?_
          unfold vc
          rw [if_neg h, if_neg (by omega), h4, decide_eq_true h3]
          rfl
    · dsimp only [tm_c2P] at h2
      rw [d1, nJ_lt (by omega) (by omega)] at h2
      refine Rn.al 60 rfl rfl rfl rfl (by omega) ?_
      rw [a4]
      refine Rn.cs 60 rfl rfl rfl rfl (Cl.jdk rfl rfl) (by decide) ?_
      refine Rn.ir 60 rfl rfl rfl ?_
      rw [nJ_max0 (by omega) (by omega)]
      unfold vc
      rw [if_neg h, if_pos (by omega)]
  · dsimp only [tm_c2P] at h
    rw [nI_eq (by omega) (by decide), Classical.not_not] at h
    refine Rn.ir 60 rfl rfl rfl ?_
    unfold vc
    rw [if_pos h]
theorem sp_isForOpen {w : Wd} {k : Fin 6} {c : Nat → Nat} {nr ti o sp dy : Nat} {wf : Nat → Nat} {p g : Nat} (hc : PlOk c) (hp : PlIs w k c) (hd : DyIs w k c nr ti o sp dy wf) (ho : DyOk c nr ti o sp wf) (hpl : p < c 4) (hg : g < c 3) : Cl 2 jC_isForOpen [vR (cit k 0), vI (nI p), vI (nI g)] w (some (vI (bI (fo c o wf p g))), w) := by
  obtain ⟨b1, b2, b3, b4⟩ := hc.2.2.2.2 p hpl
  obtain ⟨a1, a2, a3, a4⟩ := hp.2.2.2.2 p hpl
  obtain ⟨d1, d2, d3, d4, d5, d6⟩ := hd
  obtain ⟨o1, o2, o3, o4, o5⟩ := ho
  have hc4 := hc.2.2.1
  have hc3 := hc.2.1
  refine Cl.of rfl rfl rfl (lc := [some (vR (cit k 0)), some (vI (nI p)), some (vI (nI g))]) rfl ?_
  refine Rn.al 60 rfl rfl rfl rfl (by omega) ?_
  rw [a1]
  refine Rn.if2 60 rfl rfl (fun h => ?_) (fun h => ?_)
  · dsimp only [tm_c2P] at h
    rw [nI_eq (by omega) (by decide)] at h
    refine Rn.cv 60 rfl rfl rfl rfl rfl (sp_wishFor (d6 p hpl) (o5 p hpl) (by omega) (by omega)) (by decide) ?_
    unfold fo
    rw [if_neg h]
    refine Rn.if2 60 rfl rfl (fun h2 => ?_) (fun h2 => ?_)
    · dsimp only [tm_c2P] at h2
      rw [bI_eq1] at h2
      refine Rn.zr 60 rfl rfl rfl (by decide) ?_
      rw [Bool.eq_false_iff.mpr h2]
      rfl
    · dsimp only [tm_c2P] at h2
      rw [bI_eq1, Classical.not_not] at h2
      refine Rn.zr 60 rfl rfl rfl (by decide) ?_
      rw [h2]
      rfl
  · dsimp only [tm_c2P] at h
    rw [nI_eq (by omega) (by decide), Classical.not_not] at h
    refine Rn.cv 60 rfl rfl rfl rfl rfl (sp_isOpen d3 (by omega) o3) (by decide) ?_
    refine Rn.zr 60 rfl rfl rfl (bI01 _) ?_
    unfold fo
    rw [if_pos h]
theorem vc_le {c : Nat → Nat} (hc : PlOk c) (nr o : Nat) {p : Nat} (hp : p < c 4) (g : Nat) : vc c nr o p g ≤ 20 := by
  obtain ⟨b1, b2, b3, b4⟩ := hc.2.2.2.2 p hp
  unfold vc
  split
  · omega
  · split
    · omega
    · cases decide (so c p = 2) && wd c o p <;> simp
theorem suN_le {c : Nat → Nat} (hc : PlOk c) (nr o : Nat) (wf : Nat → Nat) (g : Nat) (b : Bool) : ∀ n p a, p + n = c 4 → suN c nr o wf g b n p a ≤ a + 20 * n
  | 0, _, a, _ => Nat.le_refl _
  | n + 1, p, a, h => by
    unfold suN
    have h1 := suN_le hc nr o wf g b n (p + 1) (if fo c o wf p g = b then a + vc c nr o p g else a) (by omega)
    have h2 := vc_le hc nr o (p := p) (by omega) g
    have h3 : (if fo c o wf p g = b then a + vc c nr o p g else a) ≤ a + 20 := by split <;> omega
    omega
theorem su_le {c : Nat → Nat} (hc : PlOk c) (nr o : Nat) (wf : Nat → Nat) (g : Nat) (b : Bool) : su c nr o wf g b ≤ 100 := by
  have h := suN_le hc nr o wf g b (c 4) 0 0 (by omega)
  have h4 := hc.2.2.1
  unfold su
  omega
theorem bI_inj {a b : Bool} : bI a = bI b ↔ a = b := by cases a <;> cases b <;> decide
theorem sp_sumOf {w : Wd} {k : Fin 6} {c : Nat → Nat} {nr ti o sp dy : Nat} {wf : Nat → Nat} {g : Nat} (b : Bool) (hc : PlOk c) (hp : PlIs w k c) (hd : DyIs w k c nr ti o sp dy wf) (ho : DyOk c nr ti o sp wf) (hT : Tab w k c o) (hg : g < c 3) : Cl 3 jC_sumOf [vR (cit k 0), vI (nI g), vI (bI b)] w (some (vI (nI (su c nr o wf g b))), w) := by
  have hc4 := hc.2.2.1
  have hc3 := hc.2.1
  refine Cl.of rfl rfl rfl (lc := [some (vR (cit k 0)), some (vI (nI g)), some (vI (bI b)), none, none]) rfl ?_
  have key : ∀ n p a, p + n = c 4 → Rn none 2 jC_sumOf (5, [some (vR (cit k 0)), some (vI (nI g)), some (vI (bI b)), some (vI (nI a)), some (vI (nI p))], [], w) (some (vI (nI (suN c nr o wf g b n p a))), w) := by
    intro n
    induction n with
    | zero =>
      intro p a h1
      refine Rn.if2t 60 rfl rfl (by dsimp only [tm_c2P]; rw [hp.2.2.1]; exact nI_le (by omega) (by omega)) ?_
      exact Rn.ir 60 rfl rfl rfl rfl
    | succ n ih =>
      intro p a h1
      refine Rn.if2f 60 rfl rfl (by dsimp only [tm_c2P]; rw [hp.2.2.1]; exact nI_ge (by omega) (by omega)) ?_
      refine Rn.cv 60 rfl rfl rfl rfl rfl (sp_isForOpen hc hp hd ho (p := p) (by omega) hg) (by decide) ?_
      unfold suN
      refine Rn.if2 60 rfl rfl (fun h => ?_) (fun h => ?_)
      · dsimp only [tm_c2P] at h
        rw [bI_inj] at h
        rw [if_neg h]
        have ih := ih (p + 1) a (by omega)
        rw [nI_succ p] at ih
        exact Rn.at 2 rfl ih
      · dsimp only [tm_c2P] at h
        rw [bI_inj, Classical.not_not] at h
        rw [if_pos h]
        refine Rn.cv 60 rfl rfl rfl rfl rfl (sp_voiceOf hc hp hd ho hT (p := p) (by omega) hg) (by decide) ?_
        have ih := ih (p + 1) (a + vc c nr o p g) (by omega)
        rw [nI_succ p, ← nI_add] at ih
        exact Rn.at 4 rfl ih
  exact Rn.at 4 rfl (key (c 4) 0 0 (by omega))
theorem sp_isOpenBy {w : Wd} {k : Fin 6} {ti o g a b : Nat} (ht : w (cit k 0) 2 = nI ti) (hop : w (cit k 0) 12 = nI o) (hti : ti ≤ 2) (h8 : o < 256) (hg : g < 8) (ha : a ≤ 100) (hb : b ≤ 100) : Cl 2 jC_isOpenBy [vR (cit k 0), vI (nI g), vI (nI a), vI (nI b)] w (some (vI (bI (ob ti o g a b))), w) := by
  refine Cl.of rfl rfl rfl (lc := [some (vR (cit k 0)), some (vI (nI g)), some (vI (nI a)), some (vI (nI b))]) rfl ?_
  unfold ob
  refine Rn.if2 60 rfl rfl (fun h => ?_) (fun h => ?_)
  · dsimp only [tm_c2P] at h
    rw [nI_eq (by omega) (by omega)] at h
    rw [if_pos h]
    refine Rn.if2 60 rfl rfl (fun h2 => ?_) (fun h2 => ?_)
    · dsimp only [tm_c2P] at h2
      rw [ht, nI_eq (by omega) (by decide)] at h2
      refine Rn.zr 60 rfl rfl rfl (by decide) ?_
      rw [decide_eq_true h2]
      rfl
    · dsimp only [tm_c2P] at h2
      rw [ht, nI_eq (by omega) (by decide)] at h2
      rw [decide_eq_false h2, Bool.false_or]
      refine Rn.if2 60 rfl rfl (fun h3 => ?_) (fun h3 => ?_)
      · dsimp only [tm_c2P] at h3
        rw [ht, nI_eq (by omega) (by decide)] at h3
        refine Rn.zr 60 rfl rfl rfl (by decide) ?_
        rw [decide_eq_false h3]
        rfl
      · dsimp only [tm_c2P] at h3
        rw [ht, nI_eq (by omega) (by decide), Classical.not_not] at h3
        rw [decide_eq_true h3, Bool.true_and]
        refine Rn.cv 60 rfl rfl rfl rfl rfl (sp_isOpen hop hg h8) (by decide) ?_
        refine Rn.if1 60 rfl rfl (fun h4 => ?_) (fun h4 => ?_)
        · dsimp only [tm_c2P] at h4
          rw [bI_eq0] at h4
          refine Rn.zr 60 rfl rfl rfl (by decide) ?_
          rw [h4]
          rfl
        · dsimp only [tm_c2P] at h4
          rw [bI_eq0, Bool.not_eq_false] at h4
          refine Rn.zr 60 rfl rfl rfl (by decide) ?_
          rw [h4]
          rfl
  · dsimp only [tm_c2P] at h
    rw [nI_eq (by omega) (by omega)] at h
    rw [if_neg h]
    refine Rn.if2 60 rfl rfl (fun h2 => ?_) (fun h2 => ?_)
    · dsimp only [tm_c2P] at h2
      rw [nJ_le (by omega) (by omega)] at h2
      refine Rn.zr 60 rfl rfl rfl (by decide) ?_
      rw [decide_eq_false (by omega)]
      rfl
    · dsimp only [tm_c2P] at h2
      rw [nJ_le (by omega) (by omega)] at h2
      refine Rn.zr 60 rfl rfl rfl (by decide) ?_
      rw [decide_eq_true (by omega)]
      rfl
theorem sp_spendsVeto {w : Wd} {k : Fin 6} {c : Nat → Nat} {nr ti o sp dy : Nat} {wf : Nat → Nat} {g : Nat} (hc : PlOk c) (hp : PlIs w k c) (hd : DyIs w k c nr ti o sp dy wf) (ho : DyOk c nr ti o sp wf) (hT : Tab w k c o) (hg : g < c 3) : ∃ w', Cl 2 jC_spendsVeto [vR (cit k 0), vI (nI g)] w (some (vI (bI (vtN c nr o wf g sp (c 4) 0).isSome)), w') ∧ w' = (match vtN c nr o wf g sp (c 4) 0 with | some p => wset w (cit k 0) 13 (nI (sp ||| 2 ^ p)) | none => w) := by
  obtain ⟨d1, d2, d3, d4, d5, d6⟩ := id hd
  obtain ⟨o1, o2, o3, o4, o5⟩ := id ho
  have hc4 := hc.2.2.1
  have hc3 := hc.2.1
  refine ⟨_, ?_, rfl⟩
  refine Cl.of rfl rfl rfl (lc := [some (vR (cit k 0)), some (vI (nI g)), none, none]) rfl ?_
  have key : ∀ n p x3, p + n = c 4 → Rn none 1 jC_spendsVeto (2, [some (vR (cit k 0)), some (vI (nI g)), some (vI (nI p)), x3], [], w) (some (vI (bI (vtN c nr o wf g sp n p).isSome)), (match vtN c nr o wf g sp n p with | some p => wset w (cit k 0) 13 (nI (sp ||| 2 ^ p)) | none => w)) := by
    intro n
    induction n with
    | zero =>
      intro p x3 h1
      refine Rn.if2t 60 rfl rfl (by dsimp only [tm_c2P]; rw [hp.2.2.1]; exact nI_le (by omega) (by omega)) ?_
      exact Rn.zr 60 rfl rfl rfl (by decide) rfl
    | succ n ih =>
      intro p x3 h1
      have hpl : p < c 4 := by omega
      obtain ⟨a1, a2, a3, a4⟩ := hp.2.2.2.2 p hpl
      obtain ⟨b1, b2, b3, b4⟩ := hc.2.2.2.2 p hpl
      have hst : st c o p g ≤ 100 := stT_100 6
      have no : vto c nr o wf g sp p = false → ∀ b, Rn none 1 jC_spendsVeto (77, [some (vR (cit k 0)), some (vI (nI g)), some (vI (nI p)), some (vI (bI b))], [], w) (some (vI (bI (vtN c nr o wf g sp (n + 1) p).isSome)), (match vtN c nr o wf g sp (n + 1) p with | some p => wset w (cit k 0) 13 (nI (sp ||| 2 ^ p)) | none => w)) := by
        intro h b
        have ih := ih (p + 1) (some (vI (bI b))) (by omega)
        rw [nI_succ p] at ih
        unfold vtN
        rw [h, cond_false]
        exact Rn.at 2 rfl ih
      refine Rn.if2f 60 rfl rfl (by dsimp only [tm_c2P]; rw [hp.2.2.1]; exact nI_ge (by omega) (by omega)) ?_
      refine Rn.al 60 rfl rfl rfl rfl (by omega) ?_
      rw [a1]
      refine Rn.if2 60 rfl rfl (fun h => ?_) (fun h => ?_)
      · dsimp only [tm_c2P] at h
        rw [nI_eq (by omega) (by decide)] at h
        refine Rn.if1t 60 rfl rfl (show nI 0 = 0 from rfl) ?_
        exact no (by unfold vto; rw [decide_eq_false h]; rfl) false
      · dsimp only [tm_c2P] at h
        rw [nI_eq (by omega) (by decide), Classical.not_not] at h
        refine Rn.if1 60 rfl rfl (fun h2 => ?_) (fun h2 => ?_)
        · dsimp only [tm_c2P] at h2
          rw [d4, nJ_bit (by omega) (by omega), bI_eq0, Bool.not_eq_false] at h2
          refine Rn.if1t 60 rfl rfl (show nI 0 = 0 from rfl) ?_
          exact no (by unfold vto; rw [h2]; simp) false
        · dsimp only [tm_c2P] at h2
          rw [d4, nJ_bit (by omega) (by omega), bI_eq0, Classical.not_not] at h2
          refine Rn.if1f 60 rfl rfl (show ¬ nI 1 = 0 by decide) ?_
          refine Rn.cv 60 rfl rfl rfl rfl rfl (sp_stepsOf hc hT hpl hg) (by decide) ?_
          refine Rn.if2 60 rfl rfl (fun h3 => ?_) (fun h3 => ?_)
          · dsimp only [tm_c2P] at h3
            rw [d1, nJ_lt (by omega) (by omega)] at h3
            exact no (by unfold vto; rw [decide_eq_false (p := st c o p g ≤ nr) (by omega)]; simp) true
          · dsimp only [tm_c2P] at h3
            rw [d1, nJ_lt (by omega) (by omega)] at h3
            refine Rn.cv 60 rfl rfl rfl rfl rfl (sp_wishFor (d6 p hpl) (o5 p hpl) (by omega) (by omega)) (by decide) ?_
            refine Rn.if1 60 rfl rfl (fun h4 => ?_) (fun h4 => ?_)
            · dsimp only [tm_c2P] at h4
              rw [bI_eq0, Bool.not_eq_false] at h4
              exact no (by unfold vto; rw [h4]; simp) true
            · dsimp only [tm_c2P] at h4
              rw [bI_eq0, Classical.not_not] at h4
              refine Rn.zr 60 rfl rfl rfl (by decide) ?_
              have e : vto c nr o wf g sp p = true := by
                unfold vto
                rw [decide_eq_true h, h2, decide_eq_true (p := st c o p g ≤ nr) (by omega), h4]
                rfl
              unfold vtN
              rw [e, cond_true]
              dsimp only
              rw [d4, nJ_1shl (by omega), nJ_or]
              rfl
  exact Rn.at 2 rfl (key (c 4) 0 none (by omega))

def CiIs (w : Wd) (k : Fin 6) (c : Nat → Nat) (nr ti o sp dy : Nat) (wf : Nat → Nat) : Prop := PlIs w k c ∧ DyIs w k c nr ti o sp dy wf ∧ TbIs w k c
theorem vtN_lt {c : Nat → Nat} {nr o : Nat} {wf : Nat → Nat} {g sp : Nat} : ∀ n p q, vtN c nr o wf g sp n p = some q → p ≤ q ∧ q < p + n
  | 0, _, _, h => by cases h
  | n + 1, p, q, h => by
    unfold vtN at h
    cases hb : vto c nr o wf g sp p with
    | true => rw [hb] at h; cases h; omega
    | false =>
      rw [hb] at h
      have := vtN_lt n (p + 1) q h
      omega
theorem daS_ok {c : Nat → Nat} (hc : PlOk c) {nr ti o g th sp : Nat} {wf : Nat → Nat} (hg : g < c 3) (h1 : th < 256) (h2 : sp < 32) : (daS c nr ti wf o g th sp).1 < 256 ∧ (daS c nr ti wf o g th sp).2 < 32 := by
  have hc3 := hc.2.1
  have hc4 := hc.2.2.1
  unfold daS
  cases ob ti o g (su c nr o wf g true) (su c nr o wf g false) with
  | false => exact ⟨h1, h2⟩
  | true =>
    rw [cond_true]
    cases hv : vtN c nr o wf g sp (c 4) 0 with
    | some p =>
      have := vtN_lt _ _ _ hv
      exact ⟨h1, Nat.or_lt_two_pow (n := 5) h2 (Nat.pow_lt_pow_right (by decide) (by omega))⟩
    | none => exact ⟨Nat.or_lt_two_pow (n := 8) h1 (Nat.pow_lt_pow_right (by decide) (by omega)), h2⟩
theorem daN_ok {c : Nat → Nat} (hc : PlOk c) {nr ti o : Nat} {wf : Nat → Nat} : ∀ n g q, g + n = c 3 → q.1 < 256 → q.2 < 32 → (daN c nr ti wf o n g q).1 < 256 ∧ (daN c nr ti wf o n g q).2 < 32
  | 0, _, _, _, h1, h2 => ⟨h1, h2⟩
  | n + 1, g, q, hg, h1, h2 => by
    unfold daN
    have h := daS_ok hc (nr := nr) (ti := ti) (o := o) (wf := wf) (g := g) (by omega) h1 h2
    exact daN_ok hc n (g + 1) _ (by omega) h.1 h.2
theorem da_ok {c : Nat → Nat} (hc : PlOk c) {nr ti : Nat} {wf : Nat → Nat} {q : Nat × Nat} (h2 : q.2 < 32) : (da c nr ti wf q).1 < 256 ∧ (da c nr ti wf q).2 < 32 := daN_ok hc (c 3) 0 (0, q.2) (by omega) (by show 0 < 256; decide) h2
theorem Tab.of {w w' : Wd} {k : Fin 6} {c : Nat → Nat} {o : Nat} (h : Tab w k c o) (e : w' (cit k 8) = w (cit k 8)) : Tab w' k c o := fun p hp g hg => by rw [e]; exact h p hp g hg
theorem DyIs.of {w w' : Wd} {k : Fin 6} {c : Nat → Nat} {nr ti o sp dy : Nat} {wf : Nat → Nat} (h : DyIs w k c nr ti o sp dy wf) (h0 : ∀ j, j ≠ 16 → w' (cit k 0) j = w (cit k 0) j) (h7 : w' (cit k 7) = w (cit k 7)) : DyIs w' k c nr ti o sp dy wf := by
  obtain ⟨d1, d2, d3, d4, d5, d6⟩ := h
  exact ⟨(h0 1 (by decide)).trans d1, (h0 2 (by decide)).trans d2, (h0 12 (by decide)).trans d3, (h0 13 (by decide)).trans d4, (h0 14 (by decide)).trans d5, fun p hp => by rw [h7]; exact d6 p hp⟩
theorem sp_rise_lp {w1 : Wd} {k : Fin 6} {c : Nat → Nat} {nr ti o sp0 dy : Nat} {wf : Nat → Nat} (hc : PlOk c) (hp : PlIs w1 k c) (hd : DyIs w1 k c nr ti o sp0 dy wf) (ho : DyOk c nr ti o sp0 wf) (hT : Tab w1 k c o) : ∀ n g th sp w, g + n = c 3 → th < 256 → sp < 32 → (∀ t, t ≠ cit k 0 → w t = w1 t) → (∀ j, j ≠ 13 → w (cit k 0) j = w1 (cit k 0) j) → w (cit k 0) 13 = nI sp → ∃ w', Rn none 4 jC_rise (8, [some (vR (cit k 0)), some (vI (nI th)), some (vI (nI g))], [], w) (none, w') ∧ (∀ t, t ≠ cit k 0 → w' t = w1 t) ∧ (∀ j, j ≠ 12 → j ≠ 13 → j ≠ 14 → w' (cit k 0) j = w1 (cit k 0) j) ∧ w' (cit k 0) 12 = nI (daN c nr ti wf o n g (th, sp)).1 ∧ w' (cit k 0) 13 = nI (daN c nr ti wf o n g (th, sp)).2 ∧ w' (cit k 0) 14 = nI (dy + 1) := by
  have hc3 := hc.2.1
  obtain ⟨d1, d2, d3, d4, d5, d6⟩ := id hd
  obtain ⟨o1, o2, o3, o4, o5⟩ := id ho
  intro n
  induction n with
  | zero =>
    intro g th sp w hg hth hsp h1 h2 h3
    refine ⟨wset (wset w (cit k 0) 12 (nI th)) (cit k 0) 14 (nI dy + nI 1), ?_, fun t ht => ?_, fun j j1 j2 j3 => ?_, ?_, ?_, ?_⟩
    · refine Rn.if2t 60 rfl rfl (by dsimp only [tm_c2P]; rw [h2 3 (by decide), hp.2.1]; exact nI_le (by omega) (by omega)) ?_
      refine Rn.vr 60 rfl rfl rfl ?_
      dsimp only
      rw [wset_k (by decide), h2 14 (by decide), d5]
    · rw [wset_ne ht, wset_ne ht]
      exact h1 t ht
    · rw [wset_k j3, wset_k j1]
      exact h2 j j2
    · rw [wset_k (by decide), wset_s]
      rfl
    · rw [wset_k (by decide), wset_k (by decide), h3]
      rfl
    · rw [wset_s, nI_add]
  | succ n ih =>
    intro g th sp w hg hth hsp h1 h2 h3
    have hgl : g < c 3 := by omega
    have hpw : PlIs w k c := hp.of (h2 0 (by decide)) (h2 3 (by decide)) (h2 4 (by decide)) (fun q q1 q2 => h1 _ (cit_p (by omega)))
    have hdw : DyIs w k c nr ti o sp dy wf := ⟨(h2 1 (by decide)).trans d1, (h2 2 (by decide)).trans d2, (h2 12 (by decide)).trans d3, h3, (h2 14 (by decide)).trans d5, fun p hp => by rw [h1 _ (cit_p (by decide))]; exact d6 p hp⟩
    have how : DyOk c nr ti o sp wf := ⟨o1, o2, o3, hsp, o5⟩
    have hTw : Tab w k c o := hT.of (h1 _ (cit_p (by decide)))
    have hst := daS_ok hc (nr := nr) (ti := ti) (o := o) (wf := wf) hgl hth hsp
    have fin : ∀ w2, (∀ t, t ≠ cit k 0 → w2 t = w1 t) → (∀ j, j ≠ 13 → w2 (cit k 0) j = w1 (cit k 0) j) → w2 (cit k 0) 13 = nI (daS c nr ti wf o g th sp).2 → ∃ w', Rn none 4 jC_rise (50, [some (vR (cit k 0)), some (vI (nI (daS c nr ti wf o g th sp).1)), some (vI (nI g))], [], w2) (none, w') ∧ (∀ t, t ≠ cit k 0 → w' t = w1 t) ∧ (∀ j, j ≠ 12 → j ≠ 13 → j ≠ 14 → w' (cit k 0) j = w1 (cit k 0) j) ∧ w' (cit k 0) 12 = nI (daN c nr ti wf o (n + 1) g (th, sp)).1 ∧ w' (cit k 0) 13 = nI (daN c nr ti wf o (n + 1) g (th, sp)).2 ∧ w' (cit k 0) 14 = nI (dy + 1) := by
      intro w2 g1 g2 g3
      obtain ⟨w', f1, f2⟩ := ih (g + 1) _ _ w2 (by omega) hst.1 hst.2 g1 g2 g3
      refine ⟨w', ?_, f2⟩
      rw [nI_succ g] at f1
      exact Rn.at 2 rfl f1
    have st1 : ∀ {r}, Rn none 4 jC_rise (33, [some (vR (cit k 0)), some (vI (nI th)), some (vI (nI g))], [vI (bI (ob ti o g (su c nr o wf g true) (su c nr o wf g false)))], w) r → Rn none 4 jC_rise (8, [some (vR (cit k 0)), some (vI (nI th)), some (vI (nI g))], [], w) r := by
      intro r k1
      refine Rn.if2f 60 rfl rfl (by dsimp only [tm_c2P]; rw [hpw.2.1]; exact nI_ge hgl (by omega)) ?_
      refine Rn.cv 60 rfl rfl rfl rfl rfl (sp_sumOf true hc hpw hdw how hTw hgl) (by decide) ?_
      refine Rn.cv 60 rfl rfl rfl rfl rfl (sp_sumOf false hc hpw hdw how hTw hgl) (by decide) ?_
      refine Rn.cv 60 rfl rfl rfl rfl rfl (sp_isOpenBy hdw.2.1 hdw.2.2.1 o2 o3 (by omega) (su_le hc _ _ _ _ _) (su_le hc _ _ _ _ _)) (by decide) ?_
      exact k1
    cases hob : ob ti o g (su c nr o wf g true) (su c nr o wf g false) with
    | false =>
      have e : daS c nr ti wf o g th sp = (th, sp) := by unfold daS; rw [hob]; rfl
      rw [e] at fin
      obtain ⟨w', f1, f2⟩ := fin w h1 h2 h3
      refine ⟨w', st1 ?_, f2⟩
      rw [hob]
      exact Rn.if1t 60 rfl rfl bI_f0 f1
    | true =>
      obtain ⟨w2, g1, g2⟩ := sp_spendsVeto hc hpw hdw how hTw hgl
      cases hv : vtN c nr o wf g sp (c 4) 0 with
      | some p =>
        have e : daS c nr ti wf o g th sp = (th, sp ||| 2 ^ p) := by unfold daS; rw [hob, hv]; rfl
        rw [hv] at g1 g2
        dsimp only at g2
        subst g2
        rw [e] at fin
        obtain ⟨w', f1, f2⟩ := fin _ (fun t ht => (wset_ne ht).trans (h1 t ht)) (fun j hj => (wset_k hj).trans (h2 j hj)) wset_s
        refine ⟨w', st1 ?_, f2⟩
        rw [hob]
        refine Rn.if1f 60 rfl rfl bI_t0 ?_
        refine Rn.cv 60 rfl rfl rfl rfl rfl g1 (by decide) ?_
        exact Rn.if1t 60 rfl rfl bI_t0 f1
      | none =>
        have e : daS c nr ti wf o g th sp = (th ||| 2 ^ g, sp) := by unfold daS; rw [hob, hv]; rfl
        rw [hv] at g1 g2
        dsimp only at g2
        subst g2
        rw [e] at fin
        obtain ⟨w', f1, f2⟩ := fin w2 h1 h2 h3
        refine ⟨w', st1 ?_, f2⟩
        rw [hob]
        refine Rn.if1f 60 rfl rfl bI_t0 ?_
        refine Rn.cv 60 rfl rfl rfl rfl rfl g1 (by decide) ?_
        refine Rn.if1f 60 rfl rfl (fun z => z bI_f0) ?_
        dsimp only at f1
        rw [← nJ_or, ← nJ_1shl (by omega)] at f1
        exact Rn.at 6 rfl f1
theorem sp_rise {w : Wd} {k : Fin 6} {c : Nat → Nat} {nr ti o sp dy : Nat} {wf : Nat → Nat} (hc : PlOk c) (h : CiIs w k c nr ti o sp dy wf) (ho : DyOk c nr ti o sp wf) : ∃ w', Cl 5 jC_rise [vR (cit k 0)] w (none, w') ∧ Fr k w w' ∧ CiIs w' k c nr ti (da c nr ti wf (o, sp)).1 (da c nr ti wf (o, sp)).2 (dy + 1) wf := by
  obtain ⟨hp, hd, hT⟩ := h
  obtain ⟨o1, o2, o3, o4, o5⟩ := id ho
  obtain ⟨w1, f1, f2, f3, f4, f5⟩ := sp_measure hc hp hd.2.2.1 o3 hT
  have hp1 : PlIs w1 k c := hp.of (f3 0 (by decide)) (f3 3 (by decide)) (f3 4 (by decide)) (fun q q1 q2 => f2 _ (cit_p (by omega)) (cit_p (by omega)))
  have hd1 : DyIs w1 k c nr ti o sp dy wf := hd.of f3 (f2 _ (cit_p (by decide)) (cit_p (by decide)))
  obtain ⟨w2, g1, g2, g3, g4, g5, g6⟩ := sp_rise_lp hc hp1 hd1 ho f5 (c 3) 0 0 sp w1 (by omega) (by decide) o4 (fun _ _ => rfl) (fun _ _ => rfl) hd1.2.2.2.1
  refine ⟨w2, ?_, fun t ht => (g2 t (ht 0)).trans (f2 t (ht 0) (ht 8)), ?_, ?_, ?_⟩
  · refine Cl.of rfl rfl rfl (lc := [some (vR (cit k 0)), none, none]) rfl ?_
    refine Rn.cv 60 rfl rfl rfl rfl rfl f1 (by decide) ?_
    exact Rn.at 4 rfl g1
  · exact hp1.of (g3 0 (by decide) (by decide) (by decide)) (g3 3 (by decide) (by decide) (by decide)) (g3 4 (by decide) (by decide) (by decide)) (fun q q1 q2 => g2 _ (cit_p (by omega)))
  · exact ⟨(g3 1 (by decide) (by decide) (by decide)).trans hd1.1, (g3 2 (by decide) (by decide) (by decide)).trans hd1.2.1, g4, g5, g6, fun p hp => by rw [g2 _ (cit_p (by decide))]; exact hd1.2.2.2.2.2 p hp⟩
  · exact Or.inr ⟨o, o3, (g3 16 (by decide) (by decide) (by decide)).trans f4, f5.of (g2 _ (cit_p (by decide)))⟩
